theorem fP_329 : mj_P 329 = (13, 2, (some .boolean), mcL_law, []) := rfl
theorem fa_329 {pc : Nat} {e : mjE} (h : mj_at mcL_law pc = some e) : fAt 329 pc e := by unfold fAt; rw [fP_329]; exact h
theorem fr_329 : (mj_P 329).2.2.1 = (some .boolean) := by rw [fP_329]
theorem fna_329 : (mj_P 329).2.1 = 2 := by rw [fP_329]
theorem fh_329 : (mj_P 329).2.2.2.2.isEmpty = true := by rw [fP_329]; rfl
theorem fs_329_4045 : fSB 329 [0, 28] 7 4045 f_329_4045 := by
  unfold f_329_4045
  refine fo_iconst (fa_329 rfl) fk_c_1 ?_
  exact fo_iret (fa_329 rfl) fr_329 fw_bool
theorem fs_329_4039 : fSB 329 [0, 28] 7 4039 f_329_4039 := by
  unfold f_329_4039
  refine fo_iinc (k := 5) (fa_329 rfl) fk_c_5 ?_
  exact fo_goto (fa_329 rfl) (pcT := 28) rfl (fo_back (q := 28) rfl)
theorem fs_329_4026 : fSB 329 [0, 28] 7 4026 f_329_4026 := by
  unfold f_329_4026
  refine fo_aload_n (k := 1) (fa_329 rfl) ?_
  refine fo_virtual (by decide) fna_134 (fo_call (fa_329 rfl) fNs_virtual fsm_134 (by decide) fFil_1 fna_134 fx_134 (by rw [fP_134]; rfl) fh_329 ?_)
  refine fo_aload_n (k := 2) (fa_329 rfl) ?_
  refine fo_virtual (by decide) fna_270 (fo_call (fa_329 rfl) fNs_virtual fsm_270 (by decide) fFil_0 fna_270 fx_270 (by rw [fP_270]; rfl) fh_329 ?_)
  refine fo_icmp_eq (fa_329 rfl) (pcT := 4039) rfl fs_329_4039 ?_
  refine fo_iconst (fa_329 rfl) fk_c_0 ?_
  exact fo_iret (fa_329 rfl) fr_329 fw_bool
theorem fs_329_4012 : fSB 329 [0, 28] 7 4012 f_329_4012 := by
  unfold f_329_4012
  refine fo_aload_n (k := 1) (fa_329 rfl) ?_
  refine fo_virtual (by decide) fna_133 (fo_call (fa_329 rfl) fNs_virtual fsm_133 (by decide) fFil_3 fna_133 fx_133 (by rw [fP_133]; rfl) fh_329 ?_)
  refine fo_aload_n (k := 2) (fa_329 rfl) ?_
  refine fo_virtual (by decide) fna_269 (fo_call (fa_329 rfl) fNs_virtual fsm_269 (by decide) fFil_8 fna_269 fx_269 (by rw [fP_269]; rfl) fh_329 ?_)
  refine fo_lcmp (fa_329 rfl) ?_
  refine fo_if_eq (fa_329 rfl) (pcT := 4039) rfl fs_329_4039 ?_
  refine fo_iconst (fa_329 rfl) fk_c_0 ?_
  exact fo_iret (fa_329 rfl) fr_329 fw_bool
theorem fs_329_4009 : fSB 329 [0, 28] 7 4009 f_329_4009 := by
  unfold f_329_4009
  exact fo_goto (fa_329 rfl) (pcT := 4039) rfl fs_329_4039
theorem fs_329_4007 : fSB 329 [0, 28] 7 4007 f_329_4007 := by
  unfold f_329_4007
  refine fo_iconst (fa_329 rfl) fk_c_0 ?_
  exact fo_iret (fa_329 rfl) fr_329 fw_bool
theorem fs_329_3971 : fSB 329 [0, 28] 7 3971 f_329_3971 := by
  unfold f_329_3971
  refine fo_iload (k := 6) (fa_329 rfl) ?_
  refine fo_if_ne (fa_329 rfl) (pcT := 4009) rfl fs_329_4009 ?_
  refine fo_aload (k := 4) (fa_329 rfl) ?_
  refine fo_iconst (fa_329 rfl) fk_c_0 ?_
  exact fo_bad
theorem fs_329_3934 : fSB 329 [0, 28] 7 3934 f_329_3934 := by
  unfold f_329_3934
  refine fo_aload_n (k := 1) (fa_329 rfl) ?_
  refine fo_sld (fa_329 rfl) ?_
  refine fo_iload (k := 5) (fa_329 rfl) ?_
  refine fo_iconst (fa_329 rfl) fk_c_1 ?_
  refine fo_iadd (fa_329 rfl) ?_
  refine fo_sia (fa_329 rfl) ?_
  refine fo_aload (k := 4) (fa_329 rfl) ?_
  refine fo_static (by decide) (fo_callH (fa_329 rfl) fNs_static fsm_328 (by decide) fFil_1 fna_328 fx_328 (Or.inl rfl) fHd_nil ?_)
  refine fo_istore (k := 6) (fa_329 rfl) ?_
  refine fo_aload_n (k := 2) (fa_329 rfl) ?_
  refine fo_sld (fa_329 rfl) ?_
  refine fo_iload (k := 5) (fa_329 rfl) ?_
  refine fo_iconst (fa_329 rfl) fk_c_1 ?_
  refine fo_iadd (fa_329 rfl) ?_
  refine fo_sia (fa_329 rfl) ?_
  refine fo_virtual (by decide) fna_268 (fo_call (fa_329 rfl) fNs_virtual fsm_268 (by decide) fFil_4 fna_268 fx_268 (by rw [fP_268]; rfl) fh_329 ?_)
  refine fo_fstore (k := 7) (fa_329 rfl) ?_
  refine fo_aload_n (k := 2) (fa_329 rfl) ?_
  refine fo_virtual (by decide) fna_170 (fo_call (fa_329 rfl) fNs_virtual fsm_170 (by decide) fFil_0 fna_170 fx_170 (by rw [fP_170]; rfl) fh_329 ?_)
  refine fo_iload (k := 6) (fa_329 rfl) ?_
  refine fo_icmp_eq (fa_329 rfl) (pcT := 3971) rfl fs_329_3971 ?_
  refine fo_iconst (fa_329 rfl) fk_c_0 ?_
  exact fo_iret (fa_329 rfl) fr_329 fw_bool
theorem fs_329_3931 : fSB 329 [0, 28] 7 3931 f_329_3931 := by
  unfold f_329_3931
  exact fo_goto (fa_329 rfl) (pcT := 4039) rfl fs_329_4039
theorem fs_329_3929 : fSB 329 [0, 28] 7 3929 f_329_3929 := by
  unfold f_329_3929
  refine fo_iconst (fa_329 rfl) fk_c_0 ?_
  exact fo_iret (fa_329 rfl) fr_329 fw_bool
theorem fs_329_3894 : fSB 329 [0, 28] 7 3894 f_329_3894 := by
  unfold f_329_3894
  refine fo_iload (k := 6) (fa_329 rfl) ?_
  refine fo_if_ne (fa_329 rfl) (pcT := 3931) rfl fs_329_3931 ?_
  refine fo_aload (k := 4) (fa_329 rfl) ?_
  refine fo_iconst (fa_329 rfl) fk_c_0 ?_
  exact fo_bad
theorem fs_329_3857 : fSB 329 [0, 28] 7 3857 f_329_3857 := by
  unfold f_329_3857
  refine fo_aload_n (k := 1) (fa_329 rfl) ?_
  refine fo_sld (fa_329 rfl) ?_
  refine fo_iload (k := 5) (fa_329 rfl) ?_
  refine fo_iconst (fa_329 rfl) fk_c_1 ?_
  refine fo_iadd (fa_329 rfl) ?_
  refine fo_sia (fa_329 rfl) ?_
  refine fo_aload (k := 4) (fa_329 rfl) ?_
  refine fo_static (by decide) (fo_callH (fa_329 rfl) fNs_static fsm_327 (by decide) fFil_1 fna_327 fx_327 (Or.inl rfl) fHd_nil ?_)
  refine fo_istore (k := 6) (fa_329 rfl) ?_
  refine fo_aload_n (k := 2) (fa_329 rfl) ?_
  refine fo_sld (fa_329 rfl) ?_
  refine fo_iload (k := 5) (fa_329 rfl) ?_
  refine fo_iconst (fa_329 rfl) fk_c_1 ?_
  refine fo_iadd (fa_329 rfl) ?_
  refine fo_sia (fa_329 rfl) ?_
  refine fo_virtual (by decide) fna_267 (fo_call (fa_329 rfl) fNs_virtual fsm_267 (by decide) fFil_3 fna_267 fx_267 (by rw [fP_267]; rfl) fh_329 ?_)
  refine fo_dstore (k := 7) (fa_329 rfl) ?_
  refine fo_aload_n (k := 2) (fa_329 rfl) ?_
  refine fo_virtual (by decide) fna_170 (fo_call (fa_329 rfl) fNs_virtual fsm_170 (by decide) fFil_0 fna_170 fx_170 (by rw [fP_170]; rfl) fh_329 ?_)
  refine fo_iload (k := 6) (fa_329 rfl) ?_
  refine fo_icmp_eq (fa_329 rfl) (pcT := 3894) rfl fs_329_3894 ?_
  refine fo_iconst (fa_329 rfl) fk_c_0 ?_
  exact fo_iret (fa_329 rfl) fr_329 fw_bool
theorem fs_329_3854 : fSB 329 [0, 28] 7 3854 f_329_3854 := by
  unfold f_329_3854
  exact fo_goto (fa_329 rfl) (pcT := 4039) rfl fs_329_4039
theorem fs_329_3837 : fSB 329 [0, 28] 7 3837 f_329_3837 := by
  unfold f_329_3837
  refine fo_iload (k := 6) (fa_329 rfl) ?_
  refine fo_if_ne (fa_329 rfl) (pcT := 3854) rfl fs_329_3854 ?_
  refine fo_aload_n (k := 3) (fa_329 rfl) ?_
  refine fo_iconst (fa_329 rfl) fk_c_0 ?_
  refine fo_laload (fa_329 rfl) ?_
  refine fo_iload (k := 7) (fa_329 rfl) ?_
  refine fo_i2l (fa_329 rfl) ?_
  refine fo_lcmp (fa_329 rfl) ?_
  refine fo_if_eq (fa_329 rfl) (pcT := 3854) rfl fs_329_3854 ?_
  refine fo_iconst (fa_329 rfl) fk_c_0 ?_
  exact fo_iret (fa_329 rfl) fr_329 fw_bool
theorem fs_329_3813 : fSB 329 [0, 28] 7 3813 f_329_3813 := by
  unfold f_329_3813
  refine fo_aload_n (k := 1) (fa_329 rfl) ?_
  refine fo_aload_n (k := 3) (fa_329 rfl) ?_
  refine fo_static (by decide) (fo_callH (fa_329 rfl) fNs_static fsm_326 (by decide) fFil_1 fna_326 fx_326 (Or.inl rfl) fHd_nil ?_)
  refine fo_istore (k := 6) (fa_329 rfl) ?_
  refine fo_aload_n (k := 2) (fa_329 rfl) ?_
  refine fo_virtual (by decide) fna_266 (fo_call (fa_329 rfl) fNs_virtual fsm_266 (by decide) fFil_0 fna_266 fx_266 (by rw [fP_266]; rfl) fh_329 ?_)
  refine fo_istore (k := 7) (fa_329 rfl) ?_
  refine fo_aload_n (k := 2) (fa_329 rfl) ?_
  refine fo_virtual (by decide) fna_170 (fo_call (fa_329 rfl) fNs_virtual fsm_170 (by decide) fFil_0 fna_170 fx_170 (by rw [fP_170]; rfl) fh_329 ?_)
  refine fo_iload (k := 6) (fa_329 rfl) ?_
  refine fo_icmp_eq (fa_329 rfl) (pcT := 3837) rfl fs_329_3837 ?_
  refine fo_iconst (fa_329 rfl) fk_c_0 ?_
  exact fo_iret (fa_329 rfl) fr_329 fw_bool
theorem fs_329_3810 : fSB 329 [0, 28] 7 3810 f_329_3810 := by
  unfold f_329_3810
  exact fo_goto (fa_329 rfl) (pcT := 4039) rfl fs_329_4039
theorem fs_329_3793 : fSB 329 [0, 28] 7 3793 f_329_3793 := by
  unfold f_329_3793
  refine fo_iload (k := 6) (fa_329 rfl) ?_
  refine fo_if_ne (fa_329 rfl) (pcT := 3810) rfl fs_329_3810 ?_
  refine fo_aload_n (k := 3) (fa_329 rfl) ?_
  refine fo_iconst (fa_329 rfl) fk_c_0 ?_
  refine fo_laload (fa_329 rfl) ?_
  refine fo_iload (k := 7) (fa_329 rfl) ?_
  refine fo_i2l (fa_329 rfl) ?_
  refine fo_lcmp (fa_329 rfl) ?_
  refine fo_if_eq (fa_329 rfl) (pcT := 3810) rfl fs_329_3810 ?_
  refine fo_iconst (fa_329 rfl) fk_c_0 ?_
  exact fo_iret (fa_329 rfl) fr_329 fw_bool
theorem fs_329_3757 : fSB 329 [0, 28] 7 3757 f_329_3757 := by
  unfold f_329_3757
  refine fo_aload_n (k := 1) (fa_329 rfl) ?_
  refine fo_sld (fa_329 rfl) ?_
  refine fo_iload (k := 5) (fa_329 rfl) ?_
  refine fo_iconst (fa_329 rfl) fk_c_1 ?_
  refine fo_iadd (fa_329 rfl) ?_
  refine fo_sia (fa_329 rfl) ?_
  refine fo_aload_n (k := 3) (fa_329 rfl) ?_
  refine fo_static (by decide) (fo_callH (fa_329 rfl) fNs_static fsm_325 (by decide) fFil_1 fna_325 fx_325 (Or.inl rfl) fHd_nil ?_)
  refine fo_istore (k := 6) (fa_329 rfl) ?_
  refine fo_aload_n (k := 2) (fa_329 rfl) ?_
  refine fo_sld (fa_329 rfl) ?_
  refine fo_iload (k := 5) (fa_329 rfl) ?_
  refine fo_iconst (fa_329 rfl) fk_c_1 ?_
  refine fo_iadd (fa_329 rfl) ?_
  refine fo_sia (fa_329 rfl) ?_
  refine fo_virtual (by decide) fna_265 (fo_call (fa_329 rfl) fNs_virtual fsm_265 (by decide) fFil_2 fna_265 fx_265 (by rw [fP_265]; rfl) fh_329 ?_)
  refine fo_istore (k := 7) (fa_329 rfl) ?_
  refine fo_aload_n (k := 2) (fa_329 rfl) ?_
  refine fo_virtual (by decide) fna_170 (fo_call (fa_329 rfl) fNs_virtual fsm_170 (by decide) fFil_0 fna_170 fx_170 (by rw [fP_170]; rfl) fh_329 ?_)
  refine fo_iload (k := 6) (fa_329 rfl) ?_
  refine fo_icmp_eq (fa_329 rfl) (pcT := 3793) rfl fs_329_3793 ?_
  refine fo_iconst (fa_329 rfl) fk_c_0 ?_
  exact fo_iret (fa_329 rfl) fr_329 fw_bool
theorem fs_329_3744 : fSB 329 [0, 28] 7 3744 f_329_3744 := by
  unfold f_329_3744
  refine fo_aload_n (k := 1) (fa_329 rfl) ?_
  refine fo_virtual (by decide) fna_128 (fo_call (fa_329 rfl) fNs_virtual fsm_128 (by decide) fFil_1 fna_128 fx_128 (by rw [fP_128]; rfl) fh_329 ?_)
  refine fo_aload_n (k := 2) (fa_329 rfl) ?_
  refine fo_virtual (by decide) fna_262 (fo_call (fa_329 rfl) fNs_virtual fsm_262 (by decide) fFil_1 fna_262 fx_262 (by rw [fP_262]; rfl) fh_329 ?_)
  refine fo_icmp_eq (fa_329 rfl) (pcT := 4039) rfl fs_329_4039 ?_
  refine fo_iconst (fa_329 rfl) fk_c_0 ?_
  exact fo_iret (fa_329 rfl) fr_329 fw_bool
theorem fs_329_3741 : fSB 329 [0, 28] 7 3741 f_329_3741 := by
  unfold f_329_3741
  exact fo_goto (fa_329 rfl) (pcT := 4039) rfl fs_329_4039
theorem fs_329_3724 : fSB 329 [0, 28] 7 3724 f_329_3724 := by
  unfold f_329_3724
  refine fo_iload (k := 6) (fa_329 rfl) ?_
  refine fo_if_ne (fa_329 rfl) (pcT := 3741) rfl fs_329_3741 ?_
  refine fo_aload_n (k := 3) (fa_329 rfl) ?_
  refine fo_iconst (fa_329 rfl) fk_c_0 ?_
  refine fo_laload (fa_329 rfl) ?_
  refine fo_iload (k := 7) (fa_329 rfl) ?_
  refine fo_i2l (fa_329 rfl) ?_
  refine fo_lcmp (fa_329 rfl) ?_
  refine fo_if_eq (fa_329 rfl) (pcT := 3741) rfl fs_329_3741 ?_
  refine fo_iconst (fa_329 rfl) fk_c_0 ?_
  exact fo_iret (fa_329 rfl) fr_329 fw_bool
theorem fs_329_3686 : fSB 329 [0, 28] 7 3686 f_329_3686 := by
  unfold f_329_3686
  refine fo_aload_n (k := 1) (fa_329 rfl) ?_
  refine fo_sld (fa_329 rfl) ?_
  refine fo_iload (k := 5) (fa_329 rfl) ?_
  refine fo_iconst (fa_329 rfl) fk_c_1 ?_
  refine fo_iadd (fa_329 rfl) ?_
  refine fo_sia (fa_329 rfl) ?_
  refine fo_i2c (fa_329 rfl) ?_
  refine fo_aload_n (k := 3) (fa_329 rfl) ?_
  refine fo_static (by decide) (fo_callH (fa_329 rfl) fNs_static fsm_324 (by decide) fFil_1 fna_324 fx_324 (Or.inl rfl) fHd_nil ?_)
  refine fo_istore (k := 6) (fa_329 rfl) ?_
  refine fo_aload_n (k := 2) (fa_329 rfl) ?_
  refine fo_sld (fa_329 rfl) ?_
  refine fo_iload (k := 5) (fa_329 rfl) ?_
  refine fo_iconst (fa_329 rfl) fk_c_1 ?_
  refine fo_iadd (fa_329 rfl) ?_
  refine fo_sia (fa_329 rfl) ?_
  refine fo_i2c (fa_329 rfl) ?_
  refine fo_virtual (by decide) fna_261 (fo_call (fa_329 rfl) fNs_virtual fsm_261 (by decide) fFil_0 fna_261 fx_261 (by rw [fP_261]; rfl) fh_329 ?_)
  refine fo_istore (k := 7) (fa_329 rfl) ?_
  refine fo_aload_n (k := 2) (fa_329 rfl) ?_
  refine fo_virtual (by decide) fna_170 (fo_call (fa_329 rfl) fNs_virtual fsm_170 (by decide) fFil_0 fna_170 fx_170 (by rw [fP_170]; rfl) fh_329 ?_)
  refine fo_iload (k := 6) (fa_329 rfl) ?_
  refine fo_icmp_eq (fa_329 rfl) (pcT := 3724) rfl fs_329_3724 ?_
  refine fo_iconst (fa_329 rfl) fk_c_0 ?_
  exact fo_iret (fa_329 rfl) fr_329 fw_bool
theorem fs_329_3683 : fSB 329 [0, 28] 7 3683 f_329_3683 := by
  unfold f_329_3683
  exact fo_goto (fa_329 rfl) (pcT := 4039) rfl fs_329_4039
theorem fs_329_3666 : fSB 329 [0, 28] 7 3666 f_329_3666 := by
  unfold f_329_3666
  refine fo_iload (k := 6) (fa_329 rfl) ?_
  refine fo_if_ne (fa_329 rfl) (pcT := 3683) rfl fs_329_3683 ?_
  refine fo_aload_n (k := 3) (fa_329 rfl) ?_
  refine fo_iconst (fa_329 rfl) fk_c_0 ?_
  refine fo_laload (fa_329 rfl) ?_
  refine fo_iload (k := 7) (fa_329 rfl) ?_
  refine fo_i2l (fa_329 rfl) ?_
  refine fo_lcmp (fa_329 rfl) ?_
  refine fo_if_eq (fa_329 rfl) (pcT := 3683) rfl fs_329_3683 ?_
  refine fo_iconst (fa_329 rfl) fk_c_0 ?_
  exact fo_iret (fa_329 rfl) fr_329 fw_bool
theorem fs_329_3606 : fSB 329 [0, 28] 7 3606 f_329_3606 := by
  unfold f_329_3606
  refine fo_aload_n (k := 1) (fa_329 rfl) ?_
  refine fo_sld (fa_329 rfl) ?_
  refine fo_iload (k := 5) (fa_329 rfl) ?_
  refine fo_iconst (fa_329 rfl) fk_c_1 ?_
  refine fo_iadd (fa_329 rfl) ?_
  refine fo_sia (fa_329 rfl) ?_
  refine fo_sld (fa_329 rfl) ?_
  refine fo_iload (k := 5) (fa_329 rfl) ?_
  refine fo_iconst (fa_329 rfl) fk_c_2 ?_
  refine fo_iadd (fa_329 rfl) ?_
  refine fo_sia (fa_329 rfl) ?_
  refine fo_sld (fa_329 rfl) ?_
  refine fo_iload (k := 5) (fa_329 rfl) ?_
  refine fo_iconst (fa_329 rfl) fk_c_3 ?_
  refine fo_iadd (fa_329 rfl) ?_
  refine fo_sia (fa_329 rfl) ?_
  refine fo_aload_n (k := 3) (fa_329 rfl) ?_
  refine fo_static (by decide) (fo_callH (fa_329 rfl) fNs_static fsm_323 (by decide) fFil_1 fna_323 fx_323 (Or.inl rfl) fHd_nil ?_)
  refine fo_istore (k := 6) (fa_329 rfl) ?_
  refine fo_aload_n (k := 2) (fa_329 rfl) ?_
  refine fo_sld (fa_329 rfl) ?_
  refine fo_iload (k := 5) (fa_329 rfl) ?_
  refine fo_iconst (fa_329 rfl) fk_c_1 ?_
  refine fo_iadd (fa_329 rfl) ?_
  refine fo_sia (fa_329 rfl) ?_
  refine fo_sld (fa_329 rfl) ?_
  refine fo_iload (k := 5) (fa_329 rfl) ?_
  refine fo_iconst (fa_329 rfl) fk_c_2 ?_
  refine fo_iadd (fa_329 rfl) ?_
  refine fo_sia (fa_329 rfl) ?_
  refine fo_sld (fa_329 rfl) ?_
  refine fo_iload (k := 5) (fa_329 rfl) ?_
  refine fo_iconst (fa_329 rfl) fk_c_3 ?_
  refine fo_iadd (fa_329 rfl) ?_
  refine fo_sia (fa_329 rfl) ?_
  refine fo_virtual (by decide) fna_260 (fo_call (fa_329 rfl) fNs_virtual fsm_260 (by decide) fFil_9 fna_260 fx_260 (by rw [fP_260]; rfl) fh_329 ?_)
  refine fo_istore (k := 7) (fa_329 rfl) ?_
  refine fo_aload_n (k := 2) (fa_329 rfl) ?_
  refine fo_virtual (by decide) fna_170 (fo_call (fa_329 rfl) fNs_virtual fsm_170 (by decide) fFil_0 fna_170 fx_170 (by rw [fP_170]; rfl) fh_329 ?_)
  refine fo_iload (k := 6) (fa_329 rfl) ?_
  refine fo_icmp_eq (fa_329 rfl) (pcT := 3666) rfl fs_329_3666 ?_
  refine fo_iconst (fa_329 rfl) fk_c_0 ?_
  exact fo_iret (fa_329 rfl) fr_329 fw_bool
theorem fs_329_3603 : fSB 329 [0, 28] 7 3603 f_329_3603 := by
  unfold f_329_3603
  exact fo_goto (fa_329 rfl) (pcT := 4039) rfl fs_329_4039
theorem fs_329_3586 : fSB 329 [0, 28] 7 3586 f_329_3586 := by
  unfold f_329_3586
  refine fo_iload (k := 6) (fa_329 rfl) ?_
  refine fo_if_ne (fa_329 rfl) (pcT := 3603) rfl fs_329_3603 ?_
  refine fo_aload_n (k := 3) (fa_329 rfl) ?_
  refine fo_iconst (fa_329 rfl) fk_c_0 ?_
  refine fo_laload (fa_329 rfl) ?_
  refine fo_iload (k := 7) (fa_329 rfl) ?_
  refine fo_i2l (fa_329 rfl) ?_
  refine fo_lcmp (fa_329 rfl) ?_
  refine fo_if_eq (fa_329 rfl) (pcT := 3603) rfl fs_329_3603 ?_
  refine fo_iconst (fa_329 rfl) fk_c_0 ?_
  exact fo_iret (fa_329 rfl) fr_329 fw_bool
theorem fs_329_3526 : fSB 329 [0, 28] 7 3526 f_329_3526 := by
  unfold f_329_3526
  refine fo_aload_n (k := 1) (fa_329 rfl) ?_
  refine fo_sld (fa_329 rfl) ?_
  refine fo_iload (k := 5) (fa_329 rfl) ?_
  refine fo_iconst (fa_329 rfl) fk_c_1 ?_
  refine fo_iadd (fa_329 rfl) ?_
  refine fo_sia (fa_329 rfl) ?_
  refine fo_sld (fa_329 rfl) ?_
  refine fo_iload (k := 5) (fa_329 rfl) ?_
  refine fo_iconst (fa_329 rfl) fk_c_2 ?_
  refine fo_iadd (fa_329 rfl) ?_
  refine fo_sia (fa_329 rfl) ?_
  refine fo_sld (fa_329 rfl) ?_
  refine fo_iload (k := 5) (fa_329 rfl) ?_
  refine fo_iconst (fa_329 rfl) fk_c_3 ?_
  refine fo_iadd (fa_329 rfl) ?_
  refine fo_sia (fa_329 rfl) ?_
  refine fo_aload_n (k := 3) (fa_329 rfl) ?_
  refine fo_static (by decide) (fo_callH (fa_329 rfl) fNs_static fsm_322 (by decide) fFil_1 fna_322 fx_322 (Or.inl rfl) fHd_nil ?_)
  refine fo_istore (k := 6) (fa_329 rfl) ?_
  refine fo_aload_n (k := 2) (fa_329 rfl) ?_
  refine fo_sld (fa_329 rfl) ?_
  refine fo_iload (k := 5) (fa_329 rfl) ?_
  refine fo_iconst (fa_329 rfl) fk_c_1 ?_
  refine fo_iadd (fa_329 rfl) ?_
  refine fo_sia (fa_329 rfl) ?_
  refine fo_sld (fa_329 rfl) ?_
  refine fo_iload (k := 5) (fa_329 rfl) ?_
  refine fo_iconst (fa_329 rfl) fk_c_2 ?_
  refine fo_iadd (fa_329 rfl) ?_
  refine fo_sia (fa_329 rfl) ?_
  refine fo_sld (fa_329 rfl) ?_
  refine fo_iload (k := 5) (fa_329 rfl) ?_
  refine fo_iconst (fa_329 rfl) fk_c_3 ?_
  refine fo_iadd (fa_329 rfl) ?_
  refine fo_sia (fa_329 rfl) ?_
  refine fo_virtual (by decide) fna_259 (fo_call (fa_329 rfl) fNs_virtual fsm_259 (by decide) fFil_1 fna_259 fx_259 (by rw [fP_259]; rfl) fh_329 ?_)
  refine fo_istore (k := 7) (fa_329 rfl) ?_
  refine fo_aload_n (k := 2) (fa_329 rfl) ?_
  refine fo_virtual (by decide) fna_170 (fo_call (fa_329 rfl) fNs_virtual fsm_170 (by decide) fFil_0 fna_170 fx_170 (by rw [fP_170]; rfl) fh_329 ?_)
  refine fo_iload (k := 6) (fa_329 rfl) ?_
  refine fo_icmp_eq (fa_329 rfl) (pcT := 3586) rfl fs_329_3586 ?_
  refine fo_iconst (fa_329 rfl) fk_c_0 ?_
  exact fo_iret (fa_329 rfl) fr_329 fw_bool
theorem fs_329_3523 : fSB 329 [0, 28] 7 3523 f_329_3523 := by
  unfold f_329_3523
  exact fo_goto (fa_329 rfl) (pcT := 4039) rfl fs_329_4039
theorem fs_329_3506 : fSB 329 [0, 28] 7 3506 f_329_3506 := by
  unfold f_329_3506
  refine fo_iload (k := 6) (fa_329 rfl) ?_
  refine fo_if_ne (fa_329 rfl) (pcT := 3523) rfl fs_329_3523 ?_
  refine fo_aload_n (k := 3) (fa_329 rfl) ?_
  refine fo_iconst (fa_329 rfl) fk_c_0 ?_
  refine fo_laload (fa_329 rfl) ?_
  refine fo_iload (k := 7) (fa_329 rfl) ?_
  refine fo_i2l (fa_329 rfl) ?_
  refine fo_lcmp (fa_329 rfl) ?_
  refine fo_if_eq (fa_329 rfl) (pcT := 3523) rfl fs_329_3523 ?_
  refine fo_iconst (fa_329 rfl) fk_c_0 ?_
  exact fo_iret (fa_329 rfl) fr_329 fw_bool
theorem fs_329_3470 : fSB 329 [0, 28] 7 3470 f_329_3470 := by
  unfold f_329_3470
  refine fo_aload_n (k := 1) (fa_329 rfl) ?_
  refine fo_sld (fa_329 rfl) ?_
  refine fo_iload (k := 5) (fa_329 rfl) ?_
  refine fo_iconst (fa_329 rfl) fk_c_1 ?_
  refine fo_iadd (fa_329 rfl) ?_
  refine fo_sia (fa_329 rfl) ?_
  refine fo_aload_n (k := 3) (fa_329 rfl) ?_
  refine fo_static (by decide) (fo_callH (fa_329 rfl) fNs_static fsm_321 (by decide) fFil_1 fna_321 fx_321 (Or.inl rfl) fHd_nil ?_)
  refine fo_istore (k := 6) (fa_329 rfl) ?_
  refine fo_aload_n (k := 2) (fa_329 rfl) ?_
  refine fo_sld (fa_329 rfl) ?_
  refine fo_iload (k := 5) (fa_329 rfl) ?_
  refine fo_iconst (fa_329 rfl) fk_c_1 ?_
  refine fo_iadd (fa_329 rfl) ?_
  refine fo_sia (fa_329 rfl) ?_
  refine fo_virtual (by decide) fna_257 (fo_call (fa_329 rfl) fNs_virtual fsm_257 (by decide) fFil_3 fna_257 fx_257 (by rw [fP_257]; rfl) fh_329 ?_)
  refine fo_istore (k := 7) (fa_329 rfl) ?_
  refine fo_aload_n (k := 2) (fa_329 rfl) ?_
  refine fo_virtual (by decide) fna_170 (fo_call (fa_329 rfl) fNs_virtual fsm_170 (by decide) fFil_0 fna_170 fx_170 (by rw [fP_170]; rfl) fh_329 ?_)
  refine fo_iload (k := 6) (fa_329 rfl) ?_
  refine fo_icmp_eq (fa_329 rfl) (pcT := 3506) rfl fs_329_3506 ?_
  refine fo_iconst (fa_329 rfl) fk_c_0 ?_
  exact fo_iret (fa_329 rfl) fr_329 fw_bool
theorem fs_329_3467 : fSB 329 [0, 28] 7 3467 f_329_3467 := by
  unfold f_329_3467
  exact fo_goto (fa_329 rfl) (pcT := 4039) rfl fs_329_4039
theorem fs_329_3461 : fSB 329 [0, 28] 7 3461 f_329_3461 := by
  unfold f_329_3461
  refine fo_lcmp (fa_329 rfl) ?_
  refine fo_if_eq (fa_329 rfl) (pcT := 3467) rfl fs_329_3467 ?_
  refine fo_iconst (fa_329 rfl) fk_c_0 ?_
  exact fo_iret (fa_329 rfl) fr_329 fw_bool
theorem fs_329_3460 : fSB 329 [0, 28] 7 3460 f_329_3460 := by
  unfold f_329_3460
  refine fo_lconst (fa_329 rfl) rfl ?_
  exact fs_329_3461
theorem fs_329_3443 : fSB 329 [0, 28] 7 3443 f_329_3443 := by
  unfold f_329_3443
  refine fo_iload (k := 6) (fa_329 rfl) ?_
  refine fo_if_ne (fa_329 rfl) (pcT := 3467) rfl fs_329_3467 ?_
  refine fo_aload_n (k := 3) (fa_329 rfl) ?_
  refine fo_iconst (fa_329 rfl) fk_c_0 ?_
  refine fo_laload (fa_329 rfl) ?_
  refine fo_iload (k := 7) (fa_329 rfl) ?_
  refine fo_if_eq (fa_329 rfl) (pcT := 3460) rfl fs_329_3460 ?_
  refine fo_lconst (fa_329 rfl) rfl ?_
  exact fo_goto (fa_329 rfl) (pcT := 3461) rfl fs_329_3461
theorem fs_329_3383 : fSB 329 [0, 28] 7 3383 f_329_3383 := by
  unfold f_329_3383
  refine fo_aload_n (k := 1) (fa_329 rfl) ?_
  refine fo_sld (fa_329 rfl) ?_
  refine fo_iload (k := 5) (fa_329 rfl) ?_
  refine fo_iconst (fa_329 rfl) fk_c_1 ?_
  refine fo_iadd (fa_329 rfl) ?_
  refine fo_sia (fa_329 rfl) ?_
  refine fo_sld (fa_329 rfl) ?_
  refine fo_iload (k := 5) (fa_329 rfl) ?_
  refine fo_iconst (fa_329 rfl) fk_c_2 ?_
  refine fo_iadd (fa_329 rfl) ?_
  refine fo_sia (fa_329 rfl) ?_
  refine fo_sld (fa_329 rfl) ?_
  refine fo_iload (k := 5) (fa_329 rfl) ?_
  refine fo_iconst (fa_329 rfl) fk_c_3 ?_
  refine fo_iadd (fa_329 rfl) ?_
  refine fo_sia (fa_329 rfl) ?_
  refine fo_aload_n (k := 3) (fa_329 rfl) ?_
  refine fo_static (by decide) (fo_callH (fa_329 rfl) fNs_static fsm_320 (by decide) fFil_1 fna_320 fx_320 (Or.inl rfl) fHd_nil ?_)
  refine fo_istore (k := 6) (fa_329 rfl) ?_
  refine fo_aload_n (k := 2) (fa_329 rfl) ?_
  refine fo_sld (fa_329 rfl) ?_
  refine fo_iload (k := 5) (fa_329 rfl) ?_
  refine fo_iconst (fa_329 rfl) fk_c_1 ?_
  refine fo_iadd (fa_329 rfl) ?_
  refine fo_sia (fa_329 rfl) ?_
  refine fo_sld (fa_329 rfl) ?_
  refine fo_iload (k := 5) (fa_329 rfl) ?_
  refine fo_iconst (fa_329 rfl) fk_c_2 ?_
  refine fo_iadd (fa_329 rfl) ?_
  refine fo_sia (fa_329 rfl) ?_
  refine fo_sld (fa_329 rfl) ?_
  refine fo_iload (k := 5) (fa_329 rfl) ?_
  refine fo_iconst (fa_329 rfl) fk_c_3 ?_
  refine fo_iadd (fa_329 rfl) ?_
  refine fo_sia (fa_329 rfl) ?_
  refine fo_virtual (by decide) fna_256 (fo_call (fa_329 rfl) fNs_virtual fsm_256 (by decide) fFil_0 fna_256 fx_256 (by rw [fP_256]; rfl) fh_329 ?_)
  refine fo_istore (k := 7) (fa_329 rfl) ?_
  refine fo_aload_n (k := 2) (fa_329 rfl) ?_
  refine fo_virtual (by decide) fna_170 (fo_call (fa_329 rfl) fNs_virtual fsm_170 (by decide) fFil_0 fna_170 fx_170 (by rw [fP_170]; rfl) fh_329 ?_)
  refine fo_iload (k := 6) (fa_329 rfl) ?_
  refine fo_icmp_eq (fa_329 rfl) (pcT := 3443) rfl fs_329_3443 ?_
  refine fo_iconst (fa_329 rfl) fk_c_0 ?_
  exact fo_iret (fa_329 rfl) fr_329 fw_bool
theorem fs_329_3380 : fSB 329 [0, 28] 7 3380 f_329_3380 := by
  unfold f_329_3380
  exact fo_goto (fa_329 rfl) (pcT := 4039) rfl fs_329_4039
theorem fs_329_3363 : fSB 329 [0, 28] 7 3363 f_329_3363 := by
  unfold f_329_3363
  refine fo_iload (k := 6) (fa_329 rfl) ?_
  refine fo_if_ne (fa_329 rfl) (pcT := 3380) rfl fs_329_3380 ?_
  refine fo_aload_n (k := 3) (fa_329 rfl) ?_
  refine fo_iconst (fa_329 rfl) fk_c_0 ?_
  refine fo_laload (fa_329 rfl) ?_
  refine fo_iload (k := 7) (fa_329 rfl) ?_
  refine fo_i2l (fa_329 rfl) ?_
  refine fo_lcmp (fa_329 rfl) ?_
  refine fo_if_eq (fa_329 rfl) (pcT := 3380) rfl fs_329_3380 ?_
  refine fo_iconst (fa_329 rfl) fk_c_0 ?_
  exact fo_iret (fa_329 rfl) fr_329 fw_bool
theorem fs_329_3303 : fSB 329 [0, 28] 7 3303 f_329_3303 := by
  unfold f_329_3303
  refine fo_aload_n (k := 1) (fa_329 rfl) ?_
  refine fo_sld (fa_329 rfl) ?_
  refine fo_iload (k := 5) (fa_329 rfl) ?_
  refine fo_iconst (fa_329 rfl) fk_c_1 ?_
  refine fo_iadd (fa_329 rfl) ?_
  refine fo_sia (fa_329 rfl) ?_
  refine fo_sld (fa_329 rfl) ?_
  refine fo_iload (k := 5) (fa_329 rfl) ?_
  refine fo_iconst (fa_329 rfl) fk_c_2 ?_
  refine fo_iadd (fa_329 rfl) ?_
  refine fo_sia (fa_329 rfl) ?_
  refine fo_sld (fa_329 rfl) ?_
  refine fo_iload (k := 5) (fa_329 rfl) ?_
  refine fo_iconst (fa_329 rfl) fk_c_3 ?_
  refine fo_iadd (fa_329 rfl) ?_
  refine fo_sia (fa_329 rfl) ?_
  refine fo_aload_n (k := 3) (fa_329 rfl) ?_
  refine fo_static (by decide) (fo_callH (fa_329 rfl) fNs_static fsm_319 (by decide) fFil_1 fna_319 fx_319 (Or.inl rfl) fHd_nil ?_)
  refine fo_istore (k := 6) (fa_329 rfl) ?_
  refine fo_aload_n (k := 2) (fa_329 rfl) ?_
  refine fo_sld (fa_329 rfl) ?_
  refine fo_iload (k := 5) (fa_329 rfl) ?_
  refine fo_iconst (fa_329 rfl) fk_c_1 ?_
  refine fo_iadd (fa_329 rfl) ?_
  refine fo_sia (fa_329 rfl) ?_
  refine fo_sld (fa_329 rfl) ?_
  refine fo_iload (k := 5) (fa_329 rfl) ?_
  refine fo_iconst (fa_329 rfl) fk_c_2 ?_
  refine fo_iadd (fa_329 rfl) ?_
  refine fo_sia (fa_329 rfl) ?_
  refine fo_sld (fa_329 rfl) ?_
  refine fo_iload (k := 5) (fa_329 rfl) ?_
  refine fo_iconst (fa_329 rfl) fk_c_3 ?_
  refine fo_iadd (fa_329 rfl) ?_
  refine fo_sia (fa_329 rfl) ?_
  refine fo_virtual (by decide) fna_255 (fo_call (fa_329 rfl) fNs_virtual fsm_255 (by decide) fFil_0 fna_255 fx_255 (by rw [fP_255]; rfl) fh_329 ?_)
  refine fo_istore (k := 7) (fa_329 rfl) ?_
  refine fo_aload_n (k := 2) (fa_329 rfl) ?_
  refine fo_virtual (by decide) fna_170 (fo_call (fa_329 rfl) fNs_virtual fsm_170 (by decide) fFil_0 fna_170 fx_170 (by rw [fP_170]; rfl) fh_329 ?_)
  refine fo_iload (k := 6) (fa_329 rfl) ?_
  refine fo_icmp_eq (fa_329 rfl) (pcT := 3363) rfl fs_329_3363 ?_
  refine fo_iconst (fa_329 rfl) fk_c_0 ?_
  exact fo_iret (fa_329 rfl) fr_329 fw_bool
theorem fs_329_3300 : fSB 329 [0, 28] 7 3300 f_329_3300 := by
  unfold f_329_3300
  exact fo_goto (fa_329 rfl) (pcT := 4039) rfl fs_329_4039
theorem fs_329_3283 : fSB 329 [0, 28] 7 3283 f_329_3283 := by
  unfold f_329_3283
  refine fo_iload (k := 6) (fa_329 rfl) ?_
  refine fo_if_ne (fa_329 rfl) (pcT := 3300) rfl fs_329_3300 ?_
  refine fo_aload_n (k := 3) (fa_329 rfl) ?_
  refine fo_iconst (fa_329 rfl) fk_c_0 ?_
  refine fo_laload (fa_329 rfl) ?_
  refine fo_iload (k := 7) (fa_329 rfl) ?_
  refine fo_i2l (fa_329 rfl) ?_
  refine fo_lcmp (fa_329 rfl) ?_
  refine fo_if_eq (fa_329 rfl) (pcT := 3300) rfl fs_329_3300 ?_
  refine fo_iconst (fa_329 rfl) fk_c_0 ?_
  exact fo_iret (fa_329 rfl) fr_329 fw_bool
theorem fs_329_3235 : fSB 329 [0, 28] 7 3235 f_329_3235 := by
  unfold f_329_3235
  refine fo_aload_n (k := 1) (fa_329 rfl) ?_
  refine fo_sld (fa_329 rfl) ?_
  refine fo_iload (k := 5) (fa_329 rfl) ?_
  refine fo_iconst (fa_329 rfl) fk_c_1 ?_
  refine fo_iadd (fa_329 rfl) ?_
  refine fo_sia (fa_329 rfl) ?_
  refine fo_sld (fa_329 rfl) ?_
  refine fo_iload (k := 5) (fa_329 rfl) ?_
  refine fo_iconst (fa_329 rfl) fk_c_2 ?_
  refine fo_iadd (fa_329 rfl) ?_
  refine fo_sia (fa_329 rfl) ?_
  refine fo_aload_n (k := 3) (fa_329 rfl) ?_
  refine fo_static (by decide) (fo_callH (fa_329 rfl) fNs_static fsm_318 (by decide) fFil_1 fna_318 fx_318 (Or.inl rfl) fHd_nil ?_)
  refine fo_istore (k := 6) (fa_329 rfl) ?_
  refine fo_aload_n (k := 2) (fa_329 rfl) ?_
  refine fo_sld (fa_329 rfl) ?_
  refine fo_iload (k := 5) (fa_329 rfl) ?_
  refine fo_iconst (fa_329 rfl) fk_c_1 ?_
  refine fo_iadd (fa_329 rfl) ?_
  refine fo_sia (fa_329 rfl) ?_
  refine fo_sld (fa_329 rfl) ?_
  refine fo_iload (k := 5) (fa_329 rfl) ?_
  refine fo_iconst (fa_329 rfl) fk_c_2 ?_
  refine fo_iadd (fa_329 rfl) ?_
  refine fo_sia (fa_329 rfl) ?_
  refine fo_virtual (by decide) fna_250 (fo_call (fa_329 rfl) fNs_virtual fsm_250 (by decide) fFil_8 fna_250 fx_250 (by rw [fP_250]; rfl) fh_329 ?_)
  refine fo_istore (k := 7) (fa_329 rfl) ?_
  refine fo_aload_n (k := 2) (fa_329 rfl) ?_
  refine fo_virtual (by decide) fna_170 (fo_call (fa_329 rfl) fNs_virtual fsm_170 (by decide) fFil_0 fna_170 fx_170 (by rw [fP_170]; rfl) fh_329 ?_)
  refine fo_iload (k := 6) (fa_329 rfl) ?_
  refine fo_icmp_eq (fa_329 rfl) (pcT := 3283) rfl fs_329_3283 ?_
  refine fo_iconst (fa_329 rfl) fk_c_0 ?_
  exact fo_iret (fa_329 rfl) fr_329 fw_bool
theorem fs_329_3232 : fSB 329 [0, 28] 7 3232 f_329_3232 := by
  unfold f_329_3232
  exact fo_goto (fa_329 rfl) (pcT := 4039) rfl fs_329_4039
theorem fs_329_3226 : fSB 329 [0, 28] 7 3226 f_329_3226 := by
  unfold f_329_3226
  refine fo_lcmp (fa_329 rfl) ?_
  refine fo_if_eq (fa_329 rfl) (pcT := 3232) rfl fs_329_3232 ?_
  refine fo_iconst (fa_329 rfl) fk_c_0 ?_
  exact fo_iret (fa_329 rfl) fr_329 fw_bool
theorem fs_329_3225 : fSB 329 [0, 28] 7 3225 f_329_3225 := by
  unfold f_329_3225
  refine fo_lconst (fa_329 rfl) rfl ?_
  exact fs_329_3226
theorem fs_329_3208 : fSB 329 [0, 28] 7 3208 f_329_3208 := by
  unfold f_329_3208
  refine fo_iload (k := 6) (fa_329 rfl) ?_
  refine fo_if_ne (fa_329 rfl) (pcT := 3232) rfl fs_329_3232 ?_
  refine fo_aload_n (k := 3) (fa_329 rfl) ?_
  refine fo_iconst (fa_329 rfl) fk_c_0 ?_
  refine fo_laload (fa_329 rfl) ?_
  refine fo_iload (k := 7) (fa_329 rfl) ?_
  refine fo_if_eq (fa_329 rfl) (pcT := 3225) rfl fs_329_3225 ?_
  refine fo_lconst (fa_329 rfl) rfl ?_
  exact fo_goto (fa_329 rfl) (pcT := 3226) rfl fs_329_3226
theorem fs_329_3172 : fSB 329 [0, 28] 7 3172 f_329_3172 := by
  unfold f_329_3172
  refine fo_aload_n (k := 1) (fa_329 rfl) ?_
  refine fo_sld (fa_329 rfl) ?_
  refine fo_iload (k := 5) (fa_329 rfl) ?_
  refine fo_iconst (fa_329 rfl) fk_c_1 ?_
  refine fo_iadd (fa_329 rfl) ?_
  refine fo_sia (fa_329 rfl) ?_
  refine fo_aload_n (k := 3) (fa_329 rfl) ?_
  refine fo_static (by decide) (fo_callH (fa_329 rfl) fNs_static fsm_317 (by decide) fFil_1 fna_317 fx_317 (Or.inl rfl) fHd_nil ?_)
  refine fo_istore (k := 6) (fa_329 rfl) ?_
  refine fo_aload_n (k := 2) (fa_329 rfl) ?_
  refine fo_sld (fa_329 rfl) ?_
  refine fo_iload (k := 5) (fa_329 rfl) ?_
  refine fo_iconst (fa_329 rfl) fk_c_1 ?_
  refine fo_iadd (fa_329 rfl) ?_
  refine fo_sia (fa_329 rfl) ?_
  refine fo_virtual (by decide) fna_249 (fo_call (fa_329 rfl) fNs_virtual fsm_249 (by decide) fFil_0 fna_249 fx_249 (by rw [fP_249]; rfl) fh_329 ?_)
  refine fo_istore (k := 7) (fa_329 rfl) ?_
  refine fo_aload_n (k := 2) (fa_329 rfl) ?_
  refine fo_virtual (by decide) fna_170 (fo_call (fa_329 rfl) fNs_virtual fsm_170 (by decide) fFil_0 fna_170 fx_170 (by rw [fP_170]; rfl) fh_329 ?_)
  refine fo_iload (k := 6) (fa_329 rfl) ?_
  refine fo_icmp_eq (fa_329 rfl) (pcT := 3208) rfl fs_329_3208 ?_
  refine fo_iconst (fa_329 rfl) fk_c_0 ?_
  exact fo_iret (fa_329 rfl) fr_329 fw_bool
theorem fs_329_3169 : fSB 329 [0, 28] 7 3169 f_329_3169 := by
  unfold f_329_3169
  exact fo_goto (fa_329 rfl) (pcT := 4039) rfl fs_329_4039
theorem fs_329_3152 : fSB 329 [0, 28] 7 3152 f_329_3152 := by
  unfold f_329_3152
  refine fo_iload (k := 6) (fa_329 rfl) ?_
  refine fo_if_ne (fa_329 rfl) (pcT := 3169) rfl fs_329_3169 ?_
  refine fo_aload_n (k := 3) (fa_329 rfl) ?_
  refine fo_iconst (fa_329 rfl) fk_c_0 ?_
  refine fo_laload (fa_329 rfl) ?_
  refine fo_iload (k := 7) (fa_329 rfl) ?_
  refine fo_i2l (fa_329 rfl) ?_
  refine fo_lcmp (fa_329 rfl) ?_
  refine fo_if_eq (fa_329 rfl) (pcT := 3169) rfl fs_329_3169 ?_
  refine fo_iconst (fa_329 rfl) fk_c_0 ?_
  exact fo_iret (fa_329 rfl) fr_329 fw_bool
theorem fs_329_3130 : fSB 329 [0, 28] 7 3130 f_329_3130 := by
  unfold f_329_3130
  refine fo_sld (fa_329 rfl) ?_
  refine fo_iload (k := 5) (fa_329 rfl) ?_
  refine fo_iconst (fa_329 rfl) fk_c_3 ?_
  refine fo_iadd (fa_329 rfl) ?_
  refine fo_sia (fa_329 rfl) ?_
  refine fo_virtual (by decide) fna_247 (fo_call (fa_329 rfl) fNs_virtual fsm_247 (by decide) fFil_4 fna_247 fx_247 (by rw [fP_247]; rfl) fh_329 ?_)
  refine fo_istore (k := 7) (fa_329 rfl) ?_
  refine fo_aload_n (k := 2) (fa_329 rfl) ?_
  refine fo_virtual (by decide) fna_170 (fo_call (fa_329 rfl) fNs_virtual fsm_170 (by decide) fFil_0 fna_170 fx_170 (by rw [fP_170]; rfl) fh_329 ?_)
  refine fo_iload (k := 6) (fa_329 rfl) ?_
  refine fo_icmp_eq (fa_329 rfl) (pcT := 3152) rfl fs_329_3152 ?_
  refine fo_iconst (fa_329 rfl) fk_c_0 ?_
  exact fo_iret (fa_329 rfl) fr_329 fw_bool
theorem fs_329_3129 : fSB 329 [0, 28] 7 3129 f_329_3129 := by
  unfold f_329_3129
  refine fo_iconst (fa_329 rfl) fk_c_0 ?_
  exact fs_329_3130
theorem fs_329_3097 : fSB 329 [0, 28] 7 3097 f_329_3097 := by
  unfold f_329_3097
  refine fo_sld (fa_329 rfl) ?_
  refine fo_iload (k := 5) (fa_329 rfl) ?_
  refine fo_iconst (fa_329 rfl) fk_c_3 ?_
  refine fo_iadd (fa_329 rfl) ?_
  refine fo_sia (fa_329 rfl) ?_
  refine fo_aload_n (k := 3) (fa_329 rfl) ?_
  refine fo_static (by decide) (fo_callH (fa_329 rfl) fNs_static fsm_316 (by decide) fFil_1 fna_316 fx_316 (Or.inl rfl) fHd_nil ?_)
  refine fo_istore (k := 6) (fa_329 rfl) ?_
  refine fo_aload_n (k := 2) (fa_329 rfl) ?_
  refine fo_sld (fa_329 rfl) ?_
  refine fo_iload (k := 5) (fa_329 rfl) ?_
  refine fo_iconst (fa_329 rfl) fk_c_1 ?_
  refine fo_iadd (fa_329 rfl) ?_
  refine fo_sia (fa_329 rfl) ?_
  refine fo_sld (fa_329 rfl) ?_
  refine fo_iload (k := 5) (fa_329 rfl) ?_
  refine fo_iconst (fa_329 rfl) fk_c_2 ?_
  refine fo_iadd (fa_329 rfl) ?_
  refine fo_sia (fa_329 rfl) ?_
  refine fo_if_eq (fa_329 rfl) (pcT := 3129) rfl fs_329_3129 ?_
  refine fo_iconst (fa_329 rfl) fk_c_1 ?_
  exact fo_goto (fa_329 rfl) (pcT := 3130) rfl fs_329_3130
theorem fs_329_3096 : fSB 329 [0, 28] 7 3096 f_329_3096 := by
  unfold f_329_3096
  refine fo_iconst (fa_329 rfl) fk_c_0 ?_
  exact fs_329_3097
theorem fs_329_3076 : fSB 329 [0, 28] 7 3076 f_329_3076 := by
  unfold f_329_3076
  refine fo_aload_n (k := 1) (fa_329 rfl) ?_
  refine fo_sld (fa_329 rfl) ?_
  refine fo_iload (k := 5) (fa_329 rfl) ?_
  refine fo_iconst (fa_329 rfl) fk_c_1 ?_
  refine fo_iadd (fa_329 rfl) ?_
  refine fo_sia (fa_329 rfl) ?_
  refine fo_sld (fa_329 rfl) ?_
  refine fo_iload (k := 5) (fa_329 rfl) ?_
  refine fo_iconst (fa_329 rfl) fk_c_2 ?_
  refine fo_iadd (fa_329 rfl) ?_
  refine fo_sia (fa_329 rfl) ?_
  refine fo_if_eq (fa_329 rfl) (pcT := 3096) rfl fs_329_3096 ?_
  refine fo_iconst (fa_329 rfl) fk_c_1 ?_
  exact fo_goto (fa_329 rfl) (pcT := 3097) rfl fs_329_3097
theorem fs_329_3073 : fSB 329 [0, 28] 7 3073 f_329_3073 := by
  unfold f_329_3073
  exact fo_goto (fa_329 rfl) (pcT := 4039) rfl fs_329_4039
theorem fs_329_3056 : fSB 329 [0, 28] 7 3056 f_329_3056 := by
  unfold f_329_3056
  refine fo_iload (k := 6) (fa_329 rfl) ?_
  refine fo_if_ne (fa_329 rfl) (pcT := 3073) rfl fs_329_3073 ?_
  refine fo_aload_n (k := 3) (fa_329 rfl) ?_
  refine fo_iconst (fa_329 rfl) fk_c_0 ?_
  refine fo_laload (fa_329 rfl) ?_
  refine fo_iload (k := 7) (fa_329 rfl) ?_
  refine fo_i2l (fa_329 rfl) ?_
  refine fo_lcmp (fa_329 rfl) ?_
  refine fo_if_eq (fa_329 rfl) (pcT := 3073) rfl fs_329_3073 ?_
  refine fo_iconst (fa_329 rfl) fk_c_0 ?_
  exact fo_iret (fa_329 rfl) fr_329 fw_bool
theorem fs_329_2996 : fSB 329 [0, 28] 7 2996 f_329_2996 := by
  unfold f_329_2996
  refine fo_aload_n (k := 1) (fa_329 rfl) ?_
  refine fo_sld (fa_329 rfl) ?_
  refine fo_iload (k := 5) (fa_329 rfl) ?_
  refine fo_iconst (fa_329 rfl) fk_c_1 ?_
  refine fo_iadd (fa_329 rfl) ?_
  refine fo_sia (fa_329 rfl) ?_
  refine fo_sld (fa_329 rfl) ?_
  refine fo_iload (k := 5) (fa_329 rfl) ?_
  refine fo_iconst (fa_329 rfl) fk_c_2 ?_
  refine fo_iadd (fa_329 rfl) ?_
  refine fo_sia (fa_329 rfl) ?_
  refine fo_sld (fa_329 rfl) ?_
  refine fo_iload (k := 5) (fa_329 rfl) ?_
  refine fo_iconst (fa_329 rfl) fk_c_3 ?_
  refine fo_iadd (fa_329 rfl) ?_
  refine fo_sia (fa_329 rfl) ?_
  refine fo_aload_n (k := 3) (fa_329 rfl) ?_
  refine fo_static (by decide) (fo_callH (fa_329 rfl) fNs_static fsm_315 (by decide) fFil_1 fna_315 fx_315 (Or.inl rfl) fHd_nil ?_)
  refine fo_istore (k := 6) (fa_329 rfl) ?_
  refine fo_aload_n (k := 2) (fa_329 rfl) ?_
  refine fo_sld (fa_329 rfl) ?_
  refine fo_iload (k := 5) (fa_329 rfl) ?_
  refine fo_iconst (fa_329 rfl) fk_c_1 ?_
  refine fo_iadd (fa_329 rfl) ?_
  refine fo_sia (fa_329 rfl) ?_
  refine fo_sld (fa_329 rfl) ?_
  refine fo_iload (k := 5) (fa_329 rfl) ?_
  refine fo_iconst (fa_329 rfl) fk_c_2 ?_
  refine fo_iadd (fa_329 rfl) ?_
  refine fo_sia (fa_329 rfl) ?_
  refine fo_sld (fa_329 rfl) ?_
  refine fo_iload (k := 5) (fa_329 rfl) ?_
  refine fo_iconst (fa_329 rfl) fk_c_3 ?_
  refine fo_iadd (fa_329 rfl) ?_
  refine fo_sia (fa_329 rfl) ?_
  refine fo_virtual (by decide) fna_246 (fo_call (fa_329 rfl) fNs_virtual fsm_246 (by decide) fFil_0 fna_246 fx_246 (by rw [fP_246]; rfl) fh_329 ?_)
  refine fo_istore (k := 7) (fa_329 rfl) ?_
  refine fo_aload_n (k := 2) (fa_329 rfl) ?_
  refine fo_virtual (by decide) fna_170 (fo_call (fa_329 rfl) fNs_virtual fsm_170 (by decide) fFil_0 fna_170 fx_170 (by rw [fP_170]; rfl) fh_329 ?_)
  refine fo_iload (k := 6) (fa_329 rfl) ?_
  refine fo_icmp_eq (fa_329 rfl) (pcT := 3056) rfl fs_329_3056 ?_
  refine fo_iconst (fa_329 rfl) fk_c_0 ?_
  exact fo_iret (fa_329 rfl) fr_329 fw_bool
theorem fs_329_2993 : fSB 329 [0, 28] 7 2993 f_329_2993 := by
  unfold f_329_2993
  exact fo_goto (fa_329 rfl) (pcT := 4039) rfl fs_329_4039
theorem fs_329_2976 : fSB 329 [0, 28] 7 2976 f_329_2976 := by
  unfold f_329_2976
  refine fo_iload (k := 6) (fa_329 rfl) ?_
  refine fo_if_ne (fa_329 rfl) (pcT := 2993) rfl fs_329_2993 ?_
  refine fo_aload_n (k := 3) (fa_329 rfl) ?_
  refine fo_iconst (fa_329 rfl) fk_c_0 ?_
  refine fo_laload (fa_329 rfl) ?_
  refine fo_iload (k := 7) (fa_329 rfl) ?_
  refine fo_i2l (fa_329 rfl) ?_
  refine fo_lcmp (fa_329 rfl) ?_
  refine fo_if_eq (fa_329 rfl) (pcT := 2993) rfl fs_329_2993 ?_
  refine fo_iconst (fa_329 rfl) fk_c_0 ?_
  exact fo_iret (fa_329 rfl) fr_329 fw_bool
theorem fs_329_2928 : fSB 329 [0, 28] 7 2928 f_329_2928 := by
  unfold f_329_2928
  refine fo_aload_n (k := 1) (fa_329 rfl) ?_
  refine fo_sld (fa_329 rfl) ?_
  refine fo_iload (k := 5) (fa_329 rfl) ?_
  refine fo_iconst (fa_329 rfl) fk_c_1 ?_
  refine fo_iadd (fa_329 rfl) ?_
  refine fo_sia (fa_329 rfl) ?_
  refine fo_sld (fa_329 rfl) ?_
  refine fo_iload (k := 5) (fa_329 rfl) ?_
  refine fo_iconst (fa_329 rfl) fk_c_2 ?_
  refine fo_iadd (fa_329 rfl) ?_
  refine fo_sia (fa_329 rfl) ?_
  refine fo_aload_n (k := 3) (fa_329 rfl) ?_
  refine fo_static (by decide) (fo_callH (fa_329 rfl) fNs_static fsm_314 (by decide) fFil_1 fna_314 fx_314 (Or.inl rfl) fHd_nil ?_)
  refine fo_istore (k := 6) (fa_329 rfl) ?_
  refine fo_aload_n (k := 2) (fa_329 rfl) ?_
  refine fo_sld (fa_329 rfl) ?_
  refine fo_iload (k := 5) (fa_329 rfl) ?_
  refine fo_iconst (fa_329 rfl) fk_c_1 ?_
  refine fo_iadd (fa_329 rfl) ?_
  refine fo_sia (fa_329 rfl) ?_
  refine fo_sld (fa_329 rfl) ?_
  refine fo_iload (k := 5) (fa_329 rfl) ?_
  refine fo_iconst (fa_329 rfl) fk_c_2 ?_
  refine fo_iadd (fa_329 rfl) ?_
  refine fo_sia (fa_329 rfl) ?_
  refine fo_virtual (by decide) fna_244 (fo_call (fa_329 rfl) fNs_virtual fsm_244 (by decide) fFil_7 fna_244 fx_244 (by rw [fP_244]; rfl) fh_329 ?_)
  refine fo_istore (k := 7) (fa_329 rfl) ?_
  refine fo_aload_n (k := 2) (fa_329 rfl) ?_
  refine fo_virtual (by decide) fna_170 (fo_call (fa_329 rfl) fNs_virtual fsm_170 (by decide) fFil_0 fna_170 fx_170 (by rw [fP_170]; rfl) fh_329 ?_)
  refine fo_iload (k := 6) (fa_329 rfl) ?_
  refine fo_icmp_eq (fa_329 rfl) (pcT := 2976) rfl fs_329_2976 ?_
  refine fo_iconst (fa_329 rfl) fk_c_0 ?_
  exact fo_iret (fa_329 rfl) fr_329 fw_bool
theorem fs_329_2925 : fSB 329 [0, 28] 7 2925 f_329_2925 := by
  unfold f_329_2925
  exact fo_goto (fa_329 rfl) (pcT := 4039) rfl fs_329_4039
theorem fs_329_2908 : fSB 329 [0, 28] 7 2908 f_329_2908 := by
  unfold f_329_2908
  refine fo_iload (k := 6) (fa_329 rfl) ?_
  refine fo_if_ne (fa_329 rfl) (pcT := 2925) rfl fs_329_2925 ?_
  refine fo_aload_n (k := 3) (fa_329 rfl) ?_
  refine fo_iconst (fa_329 rfl) fk_c_0 ?_
  refine fo_laload (fa_329 rfl) ?_
  refine fo_iload (k := 7) (fa_329 rfl) ?_
  refine fo_i2l (fa_329 rfl) ?_
  refine fo_lcmp (fa_329 rfl) ?_
  refine fo_if_eq (fa_329 rfl) (pcT := 2925) rfl fs_329_2925 ?_
  refine fo_iconst (fa_329 rfl) fk_c_0 ?_
  exact fo_iret (fa_329 rfl) fr_329 fw_bool
theorem fs_329_2860 : fSB 329 [0, 28] 7 2860 f_329_2860 := by
  unfold f_329_2860
  refine fo_aload_n (k := 1) (fa_329 rfl) ?_
  refine fo_sld (fa_329 rfl) ?_
  refine fo_iload (k := 5) (fa_329 rfl) ?_
  refine fo_iconst (fa_329 rfl) fk_c_1 ?_
  refine fo_iadd (fa_329 rfl) ?_
  refine fo_sia (fa_329 rfl) ?_
  refine fo_sld (fa_329 rfl) ?_
  refine fo_iload (k := 5) (fa_329 rfl) ?_
  refine fo_iconst (fa_329 rfl) fk_c_2 ?_
  refine fo_iadd (fa_329 rfl) ?_
  refine fo_sia (fa_329 rfl) ?_
  refine fo_aload_n (k := 3) (fa_329 rfl) ?_
  refine fo_static (by decide) (fo_callH (fa_329 rfl) fNs_static fsm_313 (by decide) fFil_1 fna_313 fx_313 (Or.inl rfl) fHd_nil ?_)
  refine fo_istore (k := 6) (fa_329 rfl) ?_
  refine fo_aload_n (k := 2) (fa_329 rfl) ?_
  refine fo_sld (fa_329 rfl) ?_
  refine fo_iload (k := 5) (fa_329 rfl) ?_
  refine fo_iconst (fa_329 rfl) fk_c_1 ?_
  refine fo_iadd (fa_329 rfl) ?_
  refine fo_sia (fa_329 rfl) ?_
  refine fo_sld (fa_329 rfl) ?_
  refine fo_iload (k := 5) (fa_329 rfl) ?_
  refine fo_iconst (fa_329 rfl) fk_c_2 ?_
  refine fo_iadd (fa_329 rfl) ?_
  refine fo_sia (fa_329 rfl) ?_
  refine fo_virtual (by decide) fna_243 (fo_call (fa_329 rfl) fNs_virtual fsm_243 (by decide) fFil_3 fna_243 fx_243 (by rw [fP_243]; rfl) fh_329 ?_)
  refine fo_istore (k := 7) (fa_329 rfl) ?_
  refine fo_aload_n (k := 2) (fa_329 rfl) ?_
  refine fo_virtual (by decide) fna_170 (fo_call (fa_329 rfl) fNs_virtual fsm_170 (by decide) fFil_0 fna_170 fx_170 (by rw [fP_170]; rfl) fh_329 ?_)
  refine fo_iload (k := 6) (fa_329 rfl) ?_
  refine fo_icmp_eq (fa_329 rfl) (pcT := 2908) rfl fs_329_2908 ?_
  refine fo_iconst (fa_329 rfl) fk_c_0 ?_
  exact fo_iret (fa_329 rfl) fr_329 fw_bool
theorem fs_329_2857 : fSB 329 [0, 28] 7 2857 f_329_2857 := by
  unfold f_329_2857
  exact fo_goto (fa_329 rfl) (pcT := 4039) rfl fs_329_4039
theorem fs_329_2840 : fSB 329 [0, 28] 7 2840 f_329_2840 := by
  unfold f_329_2840
  refine fo_iload (k := 6) (fa_329 rfl) ?_
  refine fo_if_ne (fa_329 rfl) (pcT := 2857) rfl fs_329_2857 ?_
  refine fo_aload_n (k := 3) (fa_329 rfl) ?_
  refine fo_iconst (fa_329 rfl) fk_c_0 ?_
  refine fo_laload (fa_329 rfl) ?_
  refine fo_iload (k := 7) (fa_329 rfl) ?_
  refine fo_i2l (fa_329 rfl) ?_
  refine fo_lcmp (fa_329 rfl) ?_
  refine fo_if_eq (fa_329 rfl) (pcT := 2857) rfl fs_329_2857 ?_
  refine fo_iconst (fa_329 rfl) fk_c_0 ?_
  exact fo_iret (fa_329 rfl) fr_329 fw_bool
theorem fs_329_2792 : fSB 329 [0, 28] 7 2792 f_329_2792 := by
  unfold f_329_2792
  refine fo_aload_n (k := 1) (fa_329 rfl) ?_
  refine fo_sld (fa_329 rfl) ?_
  refine fo_iload (k := 5) (fa_329 rfl) ?_
  refine fo_iconst (fa_329 rfl) fk_c_1 ?_
  refine fo_iadd (fa_329 rfl) ?_
  refine fo_sia (fa_329 rfl) ?_
  refine fo_sld (fa_329 rfl) ?_
  refine fo_iload (k := 5) (fa_329 rfl) ?_
  refine fo_iconst (fa_329 rfl) fk_c_2 ?_
  refine fo_iadd (fa_329 rfl) ?_
  refine fo_sia (fa_329 rfl) ?_
  refine fo_aload_n (k := 3) (fa_329 rfl) ?_
  refine fo_static (by decide) (fo_callH (fa_329 rfl) fNs_static fsm_312 (by decide) fFil_1 fna_312 fx_312 (Or.inl rfl) fHd_nil ?_)
  refine fo_istore (k := 6) (fa_329 rfl) ?_
  refine fo_aload_n (k := 2) (fa_329 rfl) ?_
  refine fo_sld (fa_329 rfl) ?_
  refine fo_iload (k := 5) (fa_329 rfl) ?_
  refine fo_iconst (fa_329 rfl) fk_c_1 ?_
  refine fo_iadd (fa_329 rfl) ?_
  refine fo_sia (fa_329 rfl) ?_
  refine fo_sld (fa_329 rfl) ?_
  refine fo_iload (k := 5) (fa_329 rfl) ?_
  refine fo_iconst (fa_329 rfl) fk_c_2 ?_
  refine fo_iadd (fa_329 rfl) ?_
  refine fo_sia (fa_329 rfl) ?_
  refine fo_virtual (by decide) fna_242 (fo_call (fa_329 rfl) fNs_virtual fsm_242 (by decide) fFil_10 fna_242 fx_242 (by rw [fP_242]; rfl) fh_329 ?_)
  refine fo_istore (k := 7) (fa_329 rfl) ?_
  refine fo_aload_n (k := 2) (fa_329 rfl) ?_
  refine fo_virtual (by decide) fna_170 (fo_call (fa_329 rfl) fNs_virtual fsm_170 (by decide) fFil_0 fna_170 fx_170 (by rw [fP_170]; rfl) fh_329 ?_)
  refine fo_iload (k := 6) (fa_329 rfl) ?_
  refine fo_icmp_eq (fa_329 rfl) (pcT := 2840) rfl fs_329_2840 ?_
  refine fo_iconst (fa_329 rfl) fk_c_0 ?_
  exact fo_iret (fa_329 rfl) fr_329 fw_bool
theorem fs_329_2789 : fSB 329 [0, 28] 7 2789 f_329_2789 := by
  unfold f_329_2789
  exact fo_goto (fa_329 rfl) (pcT := 4039) rfl fs_329_4039
theorem fs_329_2772 : fSB 329 [0, 28] 7 2772 f_329_2772 := by
  unfold f_329_2772
  refine fo_iload (k := 6) (fa_329 rfl) ?_
  refine fo_if_ne (fa_329 rfl) (pcT := 2789) rfl fs_329_2789 ?_
  refine fo_aload_n (k := 3) (fa_329 rfl) ?_
  refine fo_iconst (fa_329 rfl) fk_c_0 ?_
  refine fo_laload (fa_329 rfl) ?_
  refine fo_iload (k := 7) (fa_329 rfl) ?_
  refine fo_i2l (fa_329 rfl) ?_
  refine fo_lcmp (fa_329 rfl) ?_
  refine fo_if_eq (fa_329 rfl) (pcT := 2789) rfl fs_329_2789 ?_
  refine fo_iconst (fa_329 rfl) fk_c_0 ?_
  exact fo_iret (fa_329 rfl) fr_329 fw_bool
theorem fs_329_2736 : fSB 329 [0, 28] 7 2736 f_329_2736 := by
  unfold f_329_2736
  refine fo_aload_n (k := 1) (fa_329 rfl) ?_
  refine fo_sld (fa_329 rfl) ?_
  refine fo_iload (k := 5) (fa_329 rfl) ?_
  refine fo_iconst (fa_329 rfl) fk_c_1 ?_
  refine fo_iadd (fa_329 rfl) ?_
  refine fo_sia (fa_329 rfl) ?_
  refine fo_aload_n (k := 3) (fa_329 rfl) ?_
  refine fo_static (by decide) (fo_callH (fa_329 rfl) fNs_static fsm_311 (by decide) fFil_1 fna_311 fx_311 (Or.inl rfl) fHd_nil ?_)
  refine fo_istore (k := 6) (fa_329 rfl) ?_
  refine fo_aload_n (k := 2) (fa_329 rfl) ?_
  refine fo_sld (fa_329 rfl) ?_
  refine fo_iload (k := 5) (fa_329 rfl) ?_
  refine fo_iconst (fa_329 rfl) fk_c_1 ?_
  refine fo_iadd (fa_329 rfl) ?_
  refine fo_sia (fa_329 rfl) ?_
  refine fo_virtual (by decide) fna_241 (fo_call (fa_329 rfl) fNs_virtual fsm_241 (by decide) fFil_1 fna_241 fx_241 (by rw [fP_241]; rfl) fh_329 ?_)
  refine fo_istore (k := 7) (fa_329 rfl) ?_
  refine fo_aload_n (k := 2) (fa_329 rfl) ?_
  refine fo_virtual (by decide) fna_170 (fo_call (fa_329 rfl) fNs_virtual fsm_170 (by decide) fFil_0 fna_170 fx_170 (by rw [fP_170]; rfl) fh_329 ?_)
  refine fo_iload (k := 6) (fa_329 rfl) ?_
  refine fo_icmp_eq (fa_329 rfl) (pcT := 2772) rfl fs_329_2772 ?_
  refine fo_iconst (fa_329 rfl) fk_c_0 ?_
  exact fo_iret (fa_329 rfl) fr_329 fw_bool
theorem fs_329_2733 : fSB 329 [0, 28] 7 2733 f_329_2733 := by
  unfold f_329_2733
  exact fo_goto (fa_329 rfl) (pcT := 4039) rfl fs_329_4039
theorem fs_329_2727 : fSB 329 [0, 28] 7 2727 f_329_2727 := by
  unfold f_329_2727
  refine fo_lcmp (fa_329 rfl) ?_
  refine fo_if_eq (fa_329 rfl) (pcT := 2733) rfl fs_329_2733 ?_
  refine fo_iconst (fa_329 rfl) fk_c_0 ?_
  exact fo_iret (fa_329 rfl) fr_329 fw_bool
theorem fs_329_2726 : fSB 329 [0, 28] 7 2726 f_329_2726 := by
  unfold f_329_2726
  refine fo_lconst (fa_329 rfl) rfl ?_
  exact fs_329_2727
theorem fs_329_2709 : fSB 329 [0, 28] 7 2709 f_329_2709 := by
  unfold f_329_2709
  refine fo_iload (k := 6) (fa_329 rfl) ?_
  refine fo_if_ne (fa_329 rfl) (pcT := 2733) rfl fs_329_2733 ?_
  refine fo_aload_n (k := 3) (fa_329 rfl) ?_
  refine fo_iconst (fa_329 rfl) fk_c_0 ?_
  refine fo_laload (fa_329 rfl) ?_
  refine fo_iload (k := 7) (fa_329 rfl) ?_
  refine fo_if_eq (fa_329 rfl) (pcT := 2726) rfl fs_329_2726 ?_
  refine fo_lconst (fa_329 rfl) rfl ?_
  exact fo_goto (fa_329 rfl) (pcT := 2727) rfl fs_329_2727
theorem fs_329_2661 : fSB 329 [0, 28] 7 2661 f_329_2661 := by
  unfold f_329_2661
  refine fo_aload_n (k := 1) (fa_329 rfl) ?_
  refine fo_sld (fa_329 rfl) ?_
  refine fo_iload (k := 5) (fa_329 rfl) ?_
  refine fo_iconst (fa_329 rfl) fk_c_1 ?_
  refine fo_iadd (fa_329 rfl) ?_
  refine fo_sia (fa_329 rfl) ?_
  refine fo_sld (fa_329 rfl) ?_
  refine fo_iload (k := 5) (fa_329 rfl) ?_
  refine fo_iconst (fa_329 rfl) fk_c_2 ?_
  refine fo_iadd (fa_329 rfl) ?_
  refine fo_sia (fa_329 rfl) ?_
  refine fo_aload_n (k := 3) (fa_329 rfl) ?_
  refine fo_static (by decide) (fo_callH (fa_329 rfl) fNs_static fsm_310 (by decide) fFil_1 fna_310 fx_310 (Or.inl rfl) fHd_nil ?_)
  refine fo_istore (k := 6) (fa_329 rfl) ?_
  refine fo_aload_n (k := 2) (fa_329 rfl) ?_
  refine fo_sld (fa_329 rfl) ?_
  refine fo_iload (k := 5) (fa_329 rfl) ?_
  refine fo_iconst (fa_329 rfl) fk_c_1 ?_
  refine fo_iadd (fa_329 rfl) ?_
  refine fo_sia (fa_329 rfl) ?_
  refine fo_sld (fa_329 rfl) ?_
  refine fo_iload (k := 5) (fa_329 rfl) ?_
  refine fo_iconst (fa_329 rfl) fk_c_2 ?_
  refine fo_iadd (fa_329 rfl) ?_
  refine fo_sia (fa_329 rfl) ?_
  refine fo_virtual (by decide) fna_239 (fo_call (fa_329 rfl) fNs_virtual fsm_239 (by decide) fFil_3 fna_239 fx_239 (by rw [fP_239]; rfl) fh_329 ?_)
  refine fo_istore (k := 7) (fa_329 rfl) ?_
  refine fo_aload_n (k := 2) (fa_329 rfl) ?_
  refine fo_virtual (by decide) fna_170 (fo_call (fa_329 rfl) fNs_virtual fsm_170 (by decide) fFil_0 fna_170 fx_170 (by rw [fP_170]; rfl) fh_329 ?_)
  refine fo_iload (k := 6) (fa_329 rfl) ?_
  refine fo_icmp_eq (fa_329 rfl) (pcT := 2709) rfl fs_329_2709 ?_
  refine fo_iconst (fa_329 rfl) fk_c_0 ?_
  exact fo_iret (fa_329 rfl) fr_329 fw_bool
theorem fs_329_2658 : fSB 329 [0, 28] 7 2658 f_329_2658 := by
  unfold f_329_2658
  exact fo_goto (fa_329 rfl) (pcT := 4039) rfl fs_329_4039
theorem fs_329_2641 : fSB 329 [0, 28] 7 2641 f_329_2641 := by
  unfold f_329_2641
  refine fo_iload (k := 6) (fa_329 rfl) ?_
  refine fo_if_ne (fa_329 rfl) (pcT := 2658) rfl fs_329_2658 ?_
  refine fo_aload_n (k := 3) (fa_329 rfl) ?_
  refine fo_iconst (fa_329 rfl) fk_c_0 ?_
  refine fo_laload (fa_329 rfl) ?_
  refine fo_iload (k := 7) (fa_329 rfl) ?_
  refine fo_i2l (fa_329 rfl) ?_
  refine fo_lcmp (fa_329 rfl) ?_
  refine fo_if_eq (fa_329 rfl) (pcT := 2658) rfl fs_329_2658 ?_
  refine fo_iconst (fa_329 rfl) fk_c_0 ?_
  exact fo_iret (fa_329 rfl) fr_329 fw_bool
theorem fs_329_2619 : fSB 329 [0, 28] 7 2619 f_329_2619 := by
  unfold f_329_2619
  refine fo_sld (fa_329 rfl) ?_
  refine fo_iload (k := 5) (fa_329 rfl) ?_
  refine fo_iconst (fa_329 rfl) fk_c_3 ?_
  refine fo_iadd (fa_329 rfl) ?_
  refine fo_sia (fa_329 rfl) ?_
  refine fo_virtual (by decide) fna_237 (fo_call (fa_329 rfl) fNs_virtual fsm_237 (by decide) fFil_8 fna_237 fx_237 (by rw [fP_237]; rfl) fh_329 ?_)
  refine fo_istore (k := 7) (fa_329 rfl) ?_
  refine fo_aload_n (k := 2) (fa_329 rfl) ?_
  refine fo_virtual (by decide) fna_170 (fo_call (fa_329 rfl) fNs_virtual fsm_170 (by decide) fFil_0 fna_170 fx_170 (by rw [fP_170]; rfl) fh_329 ?_)
  refine fo_iload (k := 6) (fa_329 rfl) ?_
  refine fo_icmp_eq (fa_329 rfl) (pcT := 2641) rfl fs_329_2641 ?_
  refine fo_iconst (fa_329 rfl) fk_c_0 ?_
  exact fo_iret (fa_329 rfl) fr_329 fw_bool
theorem fs_329_2618 : fSB 329 [0, 28] 7 2618 f_329_2618 := by
  unfold f_329_2618
  refine fo_iconst (fa_329 rfl) fk_c_0 ?_
  exact fs_329_2619
theorem fs_329_2586 : fSB 329 [0, 28] 7 2586 f_329_2586 := by
  unfold f_329_2586
  refine fo_sld (fa_329 rfl) ?_
  refine fo_iload (k := 5) (fa_329 rfl) ?_
  refine fo_iconst (fa_329 rfl) fk_c_3 ?_
  refine fo_iadd (fa_329 rfl) ?_
  refine fo_sia (fa_329 rfl) ?_
  refine fo_aload_n (k := 3) (fa_329 rfl) ?_
  refine fo_static (by decide) (fo_callH (fa_329 rfl) fNs_static fsm_309 (by decide) fFil_1 fna_309 fx_309 (Or.inl rfl) fHd_nil ?_)
  refine fo_istore (k := 6) (fa_329 rfl) ?_
  refine fo_aload_n (k := 2) (fa_329 rfl) ?_
  refine fo_sld (fa_329 rfl) ?_
  refine fo_iload (k := 5) (fa_329 rfl) ?_
  refine fo_iconst (fa_329 rfl) fk_c_1 ?_
  refine fo_iadd (fa_329 rfl) ?_
  refine fo_sia (fa_329 rfl) ?_
  refine fo_sld (fa_329 rfl) ?_
  refine fo_iload (k := 5) (fa_329 rfl) ?_
  refine fo_iconst (fa_329 rfl) fk_c_2 ?_
  refine fo_iadd (fa_329 rfl) ?_
  refine fo_sia (fa_329 rfl) ?_
  refine fo_if_eq (fa_329 rfl) (pcT := 2618) rfl fs_329_2618 ?_
  refine fo_iconst (fa_329 rfl) fk_c_1 ?_
  exact fo_goto (fa_329 rfl) (pcT := 2619) rfl fs_329_2619
theorem fs_329_2585 : fSB 329 [0, 28] 7 2585 f_329_2585 := by
  unfold f_329_2585
  refine fo_iconst (fa_329 rfl) fk_c_0 ?_
  exact fs_329_2586
theorem fs_329_2565 : fSB 329 [0, 28] 7 2565 f_329_2565 := by
  unfold f_329_2565
  refine fo_aload_n (k := 1) (fa_329 rfl) ?_
  refine fo_sld (fa_329 rfl) ?_
  refine fo_iload (k := 5) (fa_329 rfl) ?_
  refine fo_iconst (fa_329 rfl) fk_c_1 ?_
  refine fo_iadd (fa_329 rfl) ?_
  refine fo_sia (fa_329 rfl) ?_
  refine fo_sld (fa_329 rfl) ?_
  refine fo_iload (k := 5) (fa_329 rfl) ?_
  refine fo_iconst (fa_329 rfl) fk_c_2 ?_
  refine fo_iadd (fa_329 rfl) ?_
  refine fo_sia (fa_329 rfl) ?_
  refine fo_if_eq (fa_329 rfl) (pcT := 2585) rfl fs_329_2585 ?_
  refine fo_iconst (fa_329 rfl) fk_c_1 ?_
  exact fo_goto (fa_329 rfl) (pcT := 2586) rfl fs_329_2586
theorem fs_329_2562 : fSB 329 [0, 28] 7 2562 f_329_2562 := by
  unfold f_329_2562
  exact fo_goto (fa_329 rfl) (pcT := 4039) rfl fs_329_4039
theorem fs_329_2556 : fSB 329 [0, 28] 7 2556 f_329_2556 := by
  unfold f_329_2556
  refine fo_lcmp (fa_329 rfl) ?_
  refine fo_if_eq (fa_329 rfl) (pcT := 2562) rfl fs_329_2562 ?_
  refine fo_iconst (fa_329 rfl) fk_c_0 ?_
  exact fo_iret (fa_329 rfl) fr_329 fw_bool
theorem fs_329_2555 : fSB 329 [0, 28] 7 2555 f_329_2555 := by
  unfold f_329_2555
  refine fo_lconst (fa_329 rfl) rfl ?_
  exact fs_329_2556
theorem fs_329_2538 : fSB 329 [0, 28] 7 2538 f_329_2538 := by
  unfold f_329_2538
  refine fo_iload (k := 6) (fa_329 rfl) ?_
  refine fo_if_ne (fa_329 rfl) (pcT := 2562) rfl fs_329_2562 ?_
  refine fo_aload_n (k := 3) (fa_329 rfl) ?_
  refine fo_iconst (fa_329 rfl) fk_c_0 ?_
  refine fo_laload (fa_329 rfl) ?_
  refine fo_iload (k := 7) (fa_329 rfl) ?_
  refine fo_if_eq (fa_329 rfl) (pcT := 2555) rfl fs_329_2555 ?_
  refine fo_lconst (fa_329 rfl) rfl ?_
  exact fo_goto (fa_329 rfl) (pcT := 2556) rfl fs_329_2556
theorem fs_329_2502 : fSB 329 [0, 28] 7 2502 f_329_2502 := by
  unfold f_329_2502
  refine fo_aload_n (k := 1) (fa_329 rfl) ?_
  refine fo_sld (fa_329 rfl) ?_
  refine fo_iload (k := 5) (fa_329 rfl) ?_
  refine fo_iconst (fa_329 rfl) fk_c_1 ?_
  refine fo_iadd (fa_329 rfl) ?_
  refine fo_sia (fa_329 rfl) ?_
  refine fo_aload_n (k := 3) (fa_329 rfl) ?_
  refine fo_static (by decide) (fo_callH (fa_329 rfl) fNs_static fsm_308 (by decide) fFil_1 fna_308 fx_308 (Or.inl rfl) fHd_nil ?_)
  refine fo_istore (k := 6) (fa_329 rfl) ?_
  refine fo_aload_n (k := 2) (fa_329 rfl) ?_
  refine fo_sld (fa_329 rfl) ?_
  refine fo_iload (k := 5) (fa_329 rfl) ?_
  refine fo_iconst (fa_329 rfl) fk_c_1 ?_
  refine fo_iadd (fa_329 rfl) ?_
  refine fo_sia (fa_329 rfl) ?_
  refine fo_virtual (by decide) fna_236 (fo_call (fa_329 rfl) fNs_virtual fsm_236 (by decide) fFil_0 fna_236 fx_236 (by rw [fP_236]; rfl) fh_329 ?_)
  refine fo_istore (k := 7) (fa_329 rfl) ?_
  refine fo_aload_n (k := 2) (fa_329 rfl) ?_
  refine fo_virtual (by decide) fna_170 (fo_call (fa_329 rfl) fNs_virtual fsm_170 (by decide) fFil_0 fna_170 fx_170 (by rw [fP_170]; rfl) fh_329 ?_)
  refine fo_iload (k := 6) (fa_329 rfl) ?_
  refine fo_icmp_eq (fa_329 rfl) (pcT := 2538) rfl fs_329_2538 ?_
  refine fo_iconst (fa_329 rfl) fk_c_0 ?_
  exact fo_iret (fa_329 rfl) fr_329 fw_bool
theorem fs_329_2499 : fSB 329 [0, 28] 7 2499 f_329_2499 := by
  unfold f_329_2499
  exact fo_goto (fa_329 rfl) (pcT := 4039) rfl fs_329_4039
theorem fs_329_2482 : fSB 329 [0, 28] 7 2482 f_329_2482 := by
  unfold f_329_2482
  refine fo_iload (k := 6) (fa_329 rfl) ?_
  refine fo_if_ne (fa_329 rfl) (pcT := 2499) rfl fs_329_2499 ?_
  refine fo_aload_n (k := 3) (fa_329 rfl) ?_
  refine fo_iconst (fa_329 rfl) fk_c_0 ?_
  refine fo_laload (fa_329 rfl) ?_
  refine fo_iload (k := 7) (fa_329 rfl) ?_
  refine fo_i2l (fa_329 rfl) ?_
  refine fo_lcmp (fa_329 rfl) ?_
  refine fo_if_eq (fa_329 rfl) (pcT := 2499) rfl fs_329_2499 ?_
  refine fo_iconst (fa_329 rfl) fk_c_0 ?_
  exact fo_iret (fa_329 rfl) fr_329 fw_bool
theorem fs_329_2422 : fSB 329 [0, 28] 7 2422 f_329_2422 := by
  unfold f_329_2422
  refine fo_aload_n (k := 1) (fa_329 rfl) ?_
  refine fo_sld (fa_329 rfl) ?_
  refine fo_iload (k := 5) (fa_329 rfl) ?_
  refine fo_iconst (fa_329 rfl) fk_c_1 ?_
  refine fo_iadd (fa_329 rfl) ?_
  refine fo_sia (fa_329 rfl) ?_
  refine fo_sld (fa_329 rfl) ?_
  refine fo_iload (k := 5) (fa_329 rfl) ?_
  refine fo_iconst (fa_329 rfl) fk_c_2 ?_
  refine fo_iadd (fa_329 rfl) ?_
  refine fo_sia (fa_329 rfl) ?_
  refine fo_sld (fa_329 rfl) ?_
  refine fo_iload (k := 5) (fa_329 rfl) ?_
  refine fo_iconst (fa_329 rfl) fk_c_3 ?_
  refine fo_iadd (fa_329 rfl) ?_
  refine fo_sia (fa_329 rfl) ?_
  refine fo_aload_n (k := 3) (fa_329 rfl) ?_
  refine fo_static (by decide) (fo_callH (fa_329 rfl) fNs_static fsm_307 (by decide) fFil_1 fna_307 fx_307 (Or.inl rfl) fHd_nil ?_)
  refine fo_istore (k := 6) (fa_329 rfl) ?_
  refine fo_aload_n (k := 2) (fa_329 rfl) ?_
  refine fo_sld (fa_329 rfl) ?_
  refine fo_iload (k := 5) (fa_329 rfl) ?_
  refine fo_iconst (fa_329 rfl) fk_c_1 ?_
  refine fo_iadd (fa_329 rfl) ?_
  refine fo_sia (fa_329 rfl) ?_
  refine fo_sld (fa_329 rfl) ?_
  refine fo_iload (k := 5) (fa_329 rfl) ?_
  refine fo_iconst (fa_329 rfl) fk_c_2 ?_
  refine fo_iadd (fa_329 rfl) ?_
  refine fo_sia (fa_329 rfl) ?_
  refine fo_sld (fa_329 rfl) ?_
  refine fo_iload (k := 5) (fa_329 rfl) ?_
  refine fo_iconst (fa_329 rfl) fk_c_3 ?_
  refine fo_iadd (fa_329 rfl) ?_
  refine fo_sia (fa_329 rfl) ?_
  refine fo_virtual (by decide) fna_234 (fo_call (fa_329 rfl) fNs_virtual fsm_234 (by decide) fFil_0 fna_234 fx_234 (by rw [fP_234]; rfl) fh_329 ?_)
  refine fo_istore (k := 7) (fa_329 rfl) ?_
  refine fo_aload_n (k := 2) (fa_329 rfl) ?_
  refine fo_virtual (by decide) fna_170 (fo_call (fa_329 rfl) fNs_virtual fsm_170 (by decide) fFil_0 fna_170 fx_170 (by rw [fP_170]; rfl) fh_329 ?_)
  refine fo_iload (k := 6) (fa_329 rfl) ?_
  refine fo_icmp_eq (fa_329 rfl) (pcT := 2482) rfl fs_329_2482 ?_
  refine fo_iconst (fa_329 rfl) fk_c_0 ?_
  exact fo_iret (fa_329 rfl) fr_329 fw_bool
theorem fs_329_2419 : fSB 329 [0, 28] 7 2419 f_329_2419 := by
  unfold f_329_2419
  exact fo_goto (fa_329 rfl) (pcT := 4039) rfl fs_329_4039
theorem fs_329_2402 : fSB 329 [0, 28] 7 2402 f_329_2402 := by
  unfold f_329_2402
  refine fo_iload (k := 6) (fa_329 rfl) ?_
  refine fo_if_ne (fa_329 rfl) (pcT := 2419) rfl fs_329_2419 ?_
  refine fo_aload_n (k := 3) (fa_329 rfl) ?_
  refine fo_iconst (fa_329 rfl) fk_c_0 ?_
  refine fo_laload (fa_329 rfl) ?_
  refine fo_iload (k := 7) (fa_329 rfl) ?_
  refine fo_i2l (fa_329 rfl) ?_
  refine fo_lcmp (fa_329 rfl) ?_
  refine fo_if_eq (fa_329 rfl) (pcT := 2419) rfl fs_329_2419 ?_
  refine fo_iconst (fa_329 rfl) fk_c_0 ?_
  exact fo_iret (fa_329 rfl) fr_329 fw_bool
theorem fs_329_2366 : fSB 329 [0, 28] 7 2366 f_329_2366 := by
  unfold f_329_2366
  refine fo_aload_n (k := 1) (fa_329 rfl) ?_
  refine fo_sld (fa_329 rfl) ?_
  refine fo_iload (k := 5) (fa_329 rfl) ?_
  refine fo_iconst (fa_329 rfl) fk_c_1 ?_
  refine fo_iadd (fa_329 rfl) ?_
  refine fo_sia (fa_329 rfl) ?_
  refine fo_aload_n (k := 3) (fa_329 rfl) ?_
  refine fo_static (by decide) (fo_callH (fa_329 rfl) fNs_static fsm_306 (by decide) fFil_1 fna_306 fx_306 (Or.inl rfl) fHd_nil ?_)
  refine fo_istore (k := 6) (fa_329 rfl) ?_
  refine fo_aload_n (k := 2) (fa_329 rfl) ?_
  refine fo_sld (fa_329 rfl) ?_
  refine fo_iload (k := 5) (fa_329 rfl) ?_
  refine fo_iconst (fa_329 rfl) fk_c_1 ?_
  refine fo_iadd (fa_329 rfl) ?_
  refine fo_sia (fa_329 rfl) ?_
  refine fo_virtual (by decide) fna_233 (fo_call (fa_329 rfl) fNs_virtual fsm_233 (by decide) fFil_0 fna_233 fx_233 (by rw [fP_233]; rfl) fh_329 ?_)
  refine fo_istore (k := 7) (fa_329 rfl) ?_
  refine fo_aload_n (k := 2) (fa_329 rfl) ?_
  refine fo_virtual (by decide) fna_170 (fo_call (fa_329 rfl) fNs_virtual fsm_170 (by decide) fFil_0 fna_170 fx_170 (by rw [fP_170]; rfl) fh_329 ?_)
  refine fo_iload (k := 6) (fa_329 rfl) ?_
  refine fo_icmp_eq (fa_329 rfl) (pcT := 2402) rfl fs_329_2402 ?_
  refine fo_iconst (fa_329 rfl) fk_c_0 ?_
  exact fo_iret (fa_329 rfl) fr_329 fw_bool
theorem fs_329_2363 : fSB 329 [0, 28] 7 2363 f_329_2363 := by
  unfold f_329_2363
  exact fo_goto (fa_329 rfl) (pcT := 4039) rfl fs_329_4039
theorem fs_329_2346 : fSB 329 [0, 28] 7 2346 f_329_2346 := by
  unfold f_329_2346
  refine fo_iload (k := 6) (fa_329 rfl) ?_
  refine fo_if_ne (fa_329 rfl) (pcT := 2363) rfl fs_329_2363 ?_
  refine fo_aload_n (k := 3) (fa_329 rfl) ?_
  refine fo_iconst (fa_329 rfl) fk_c_0 ?_
  refine fo_laload (fa_329 rfl) ?_
  refine fo_iload (k := 7) (fa_329 rfl) ?_
  refine fo_i2l (fa_329 rfl) ?_
  refine fo_lcmp (fa_329 rfl) ?_
  refine fo_if_eq (fa_329 rfl) (pcT := 2363) rfl fs_329_2363 ?_
  refine fo_iconst (fa_329 rfl) fk_c_0 ?_
  exact fo_iret (fa_329 rfl) fr_329 fw_bool
theorem fs_329_2274 : fSB 329 [0, 28] 7 2274 f_329_2274 := by
  unfold f_329_2274
  refine fo_aload_n (k := 1) (fa_329 rfl) ?_
  refine fo_sld (fa_329 rfl) ?_
  refine fo_iload (k := 5) (fa_329 rfl) ?_
  refine fo_iconst (fa_329 rfl) fk_c_1 ?_
  refine fo_iadd (fa_329 rfl) ?_
  refine fo_sia (fa_329 rfl) ?_
  refine fo_sld (fa_329 rfl) ?_
  refine fo_iload (k := 5) (fa_329 rfl) ?_
  refine fo_iconst (fa_329 rfl) fk_c_2 ?_
  refine fo_iadd (fa_329 rfl) ?_
  refine fo_sia (fa_329 rfl) ?_
  refine fo_sld (fa_329 rfl) ?_
  refine fo_iload (k := 5) (fa_329 rfl) ?_
  refine fo_iconst (fa_329 rfl) fk_c_3 ?_
  refine fo_iadd (fa_329 rfl) ?_
  refine fo_sia (fa_329 rfl) ?_
  refine fo_sld (fa_329 rfl) ?_
  refine fo_iload (k := 5) (fa_329 rfl) ?_
  refine fo_iconst (fa_329 rfl) fk_c_4 ?_
  refine fo_iadd (fa_329 rfl) ?_
  refine fo_sia (fa_329 rfl) ?_
  refine fo_aload_n (k := 3) (fa_329 rfl) ?_
  refine fo_static (by decide) (fo_callH (fa_329 rfl) fNs_static fsm_305 (by decide) fFil_1 fna_305 fx_305 (Or.inl rfl) fHd_nil ?_)
  refine fo_istore (k := 6) (fa_329 rfl) ?_
  refine fo_aload_n (k := 2) (fa_329 rfl) ?_
  refine fo_sld (fa_329 rfl) ?_
  refine fo_iload (k := 5) (fa_329 rfl) ?_
  refine fo_iconst (fa_329 rfl) fk_c_1 ?_
  refine fo_iadd (fa_329 rfl) ?_
  refine fo_sia (fa_329 rfl) ?_
  refine fo_sld (fa_329 rfl) ?_
  refine fo_iload (k := 5) (fa_329 rfl) ?_
  refine fo_iconst (fa_329 rfl) fk_c_2 ?_
  refine fo_iadd (fa_329 rfl) ?_
  refine fo_sia (fa_329 rfl) ?_
  refine fo_sld (fa_329 rfl) ?_
  refine fo_iload (k := 5) (fa_329 rfl) ?_
  refine fo_iconst (fa_329 rfl) fk_c_3 ?_
  refine fo_iadd (fa_329 rfl) ?_
  refine fo_sia (fa_329 rfl) ?_
  refine fo_sld (fa_329 rfl) ?_
  refine fo_iload (k := 5) (fa_329 rfl) ?_
  refine fo_iconst (fa_329 rfl) fk_c_4 ?_
  refine fo_iadd (fa_329 rfl) ?_
  refine fo_sia (fa_329 rfl) ?_
  refine fo_virtual (by decide) fna_232 (fo_call (fa_329 rfl) fNs_virtual fsm_232 (by decide) fFil_5 fna_232 fx_232 (by rw [fP_232]; rfl) fh_329 ?_)
  refine fo_istore (k := 7) (fa_329 rfl) ?_
  refine fo_aload_n (k := 2) (fa_329 rfl) ?_
  refine fo_virtual (by decide) fna_170 (fo_call (fa_329 rfl) fNs_virtual fsm_170 (by decide) fFil_0 fna_170 fx_170 (by rw [fP_170]; rfl) fh_329 ?_)
  refine fo_iload (k := 6) (fa_329 rfl) ?_
  refine fo_icmp_eq (fa_329 rfl) (pcT := 2346) rfl fs_329_2346 ?_
  refine fo_iconst (fa_329 rfl) fk_c_0 ?_
  exact fo_iret (fa_329 rfl) fr_329 fw_bool
theorem fs_329_2271 : fSB 329 [0, 28] 7 2271 f_329_2271 := by
  unfold f_329_2271
  exact fo_goto (fa_329 rfl) (pcT := 4039) rfl fs_329_4039
theorem fs_329_2254 : fSB 329 [0, 28] 7 2254 f_329_2254 := by
  unfold f_329_2254
  refine fo_iload (k := 6) (fa_329 rfl) ?_
  refine fo_if_ne (fa_329 rfl) (pcT := 2271) rfl fs_329_2271 ?_
  refine fo_aload_n (k := 3) (fa_329 rfl) ?_
  refine fo_iconst (fa_329 rfl) fk_c_0 ?_
  refine fo_laload (fa_329 rfl) ?_
  refine fo_iload (k := 7) (fa_329 rfl) ?_
  refine fo_i2l (fa_329 rfl) ?_
  refine fo_lcmp (fa_329 rfl) ?_
  refine fo_if_eq (fa_329 rfl) (pcT := 2271) rfl fs_329_2271 ?_
  refine fo_iconst (fa_329 rfl) fk_c_0 ?_
  exact fo_iret (fa_329 rfl) fr_329 fw_bool
theorem fs_329_2194 : fSB 329 [0, 28] 7 2194 f_329_2194 := by
  unfold f_329_2194
  refine fo_aload_n (k := 1) (fa_329 rfl) ?_
  refine fo_sld (fa_329 rfl) ?_
  refine fo_iload (k := 5) (fa_329 rfl) ?_
  refine fo_iconst (fa_329 rfl) fk_c_1 ?_
  refine fo_iadd (fa_329 rfl) ?_
  refine fo_sia (fa_329 rfl) ?_
  refine fo_sld (fa_329 rfl) ?_
  refine fo_iload (k := 5) (fa_329 rfl) ?_
  refine fo_iconst (fa_329 rfl) fk_c_2 ?_
  refine fo_iadd (fa_329 rfl) ?_
  refine fo_sia (fa_329 rfl) ?_
  refine fo_sld (fa_329 rfl) ?_
  refine fo_iload (k := 5) (fa_329 rfl) ?_
  refine fo_iconst (fa_329 rfl) fk_c_3 ?_
  refine fo_iadd (fa_329 rfl) ?_
  refine fo_sia (fa_329 rfl) ?_
  refine fo_aload_n (k := 3) (fa_329 rfl) ?_
  refine fo_static (by decide) (fo_callH (fa_329 rfl) fNs_static fsm_304 (by decide) fFil_1 fna_304 fx_304 (Or.inl rfl) fHd_nil ?_)
  refine fo_istore (k := 6) (fa_329 rfl) ?_
  refine fo_aload_n (k := 2) (fa_329 rfl) ?_
  refine fo_sld (fa_329 rfl) ?_
  refine fo_iload (k := 5) (fa_329 rfl) ?_
  refine fo_iconst (fa_329 rfl) fk_c_1 ?_
  refine fo_iadd (fa_329 rfl) ?_
  refine fo_sia (fa_329 rfl) ?_
  refine fo_sld (fa_329 rfl) ?_
  refine fo_iload (k := 5) (fa_329 rfl) ?_
  refine fo_iconst (fa_329 rfl) fk_c_2 ?_
  refine fo_iadd (fa_329 rfl) ?_
  refine fo_sia (fa_329 rfl) ?_
  refine fo_sld (fa_329 rfl) ?_
  refine fo_iload (k := 5) (fa_329 rfl) ?_
  refine fo_iconst (fa_329 rfl) fk_c_3 ?_
  refine fo_iadd (fa_329 rfl) ?_
  refine fo_sia (fa_329 rfl) ?_
  refine fo_virtual (by decide) fna_230 (fo_call (fa_329 rfl) fNs_virtual fsm_230 (by decide) fFil_2 fna_230 fx_230 (by rw [fP_230]; rfl) fh_329 ?_)
  refine fo_istore (k := 7) (fa_329 rfl) ?_
  refine fo_aload_n (k := 2) (fa_329 rfl) ?_
  refine fo_virtual (by decide) fna_170 (fo_call (fa_329 rfl) fNs_virtual fsm_170 (by decide) fFil_0 fna_170 fx_170 (by rw [fP_170]; rfl) fh_329 ?_)
  refine fo_iload (k := 6) (fa_329 rfl) ?_
  refine fo_icmp_eq (fa_329 rfl) (pcT := 2254) rfl fs_329_2254 ?_
  refine fo_iconst (fa_329 rfl) fk_c_0 ?_
  exact fo_iret (fa_329 rfl) fr_329 fw_bool
theorem fs_329_2191 : fSB 329 [0, 28] 7 2191 f_329_2191 := by
  unfold f_329_2191
  exact fo_goto (fa_329 rfl) (pcT := 4039) rfl fs_329_4039
theorem fs_329_2174 : fSB 329 [0, 28] 7 2174 f_329_2174 := by
  unfold f_329_2174
  refine fo_iload (k := 6) (fa_329 rfl) ?_
  refine fo_if_ne (fa_329 rfl) (pcT := 2191) rfl fs_329_2191 ?_
  refine fo_aload_n (k := 3) (fa_329 rfl) ?_
  refine fo_iconst (fa_329 rfl) fk_c_0 ?_
  refine fo_laload (fa_329 rfl) ?_
  refine fo_iload (k := 7) (fa_329 rfl) ?_
  refine fo_i2l (fa_329 rfl) ?_
  refine fo_lcmp (fa_329 rfl) ?_
  refine fo_if_eq (fa_329 rfl) (pcT := 2191) rfl fs_329_2191 ?_
  refine fo_iconst (fa_329 rfl) fk_c_0 ?_
  exact fo_iret (fa_329 rfl) fr_329 fw_bool
theorem fs_329_2102 : fSB 329 [0, 28] 7 2102 f_329_2102 := by
  unfold f_329_2102
  refine fo_aload_n (k := 1) (fa_329 rfl) ?_
  refine fo_sld (fa_329 rfl) ?_
  refine fo_iload (k := 5) (fa_329 rfl) ?_
  refine fo_iconst (fa_329 rfl) fk_c_1 ?_
  refine fo_iadd (fa_329 rfl) ?_
  refine fo_sia (fa_329 rfl) ?_
  refine fo_sld (fa_329 rfl) ?_
  refine fo_iload (k := 5) (fa_329 rfl) ?_
  refine fo_iconst (fa_329 rfl) fk_c_2 ?_
  refine fo_iadd (fa_329 rfl) ?_
  refine fo_sia (fa_329 rfl) ?_
  refine fo_sld (fa_329 rfl) ?_
  refine fo_iload (k := 5) (fa_329 rfl) ?_
  refine fo_iconst (fa_329 rfl) fk_c_3 ?_
  refine fo_iadd (fa_329 rfl) ?_
  refine fo_sia (fa_329 rfl) ?_
  refine fo_sld (fa_329 rfl) ?_
  refine fo_iload (k := 5) (fa_329 rfl) ?_
  refine fo_iconst (fa_329 rfl) fk_c_4 ?_
  refine fo_iadd (fa_329 rfl) ?_
  refine fo_sia (fa_329 rfl) ?_
  refine fo_aload_n (k := 3) (fa_329 rfl) ?_
  refine fo_static (by decide) (fo_callH (fa_329 rfl) fNs_static fsm_303 (by decide) fFil_1 fna_303 fx_303 (Or.inl rfl) fHd_nil ?_)
  refine fo_istore (k := 6) (fa_329 rfl) ?_
  refine fo_aload_n (k := 2) (fa_329 rfl) ?_
  refine fo_sld (fa_329 rfl) ?_
  refine fo_iload (k := 5) (fa_329 rfl) ?_
  refine fo_iconst (fa_329 rfl) fk_c_1 ?_
  refine fo_iadd (fa_329 rfl) ?_
  refine fo_sia (fa_329 rfl) ?_
  refine fo_sld (fa_329 rfl) ?_
  refine fo_iload (k := 5) (fa_329 rfl) ?_
  refine fo_iconst (fa_329 rfl) fk_c_2 ?_
  refine fo_iadd (fa_329 rfl) ?_
  refine fo_sia (fa_329 rfl) ?_
  refine fo_sld (fa_329 rfl) ?_
  refine fo_iload (k := 5) (fa_329 rfl) ?_
  refine fo_iconst (fa_329 rfl) fk_c_3 ?_
  refine fo_iadd (fa_329 rfl) ?_
  refine fo_sia (fa_329 rfl) ?_
  refine fo_sld (fa_329 rfl) ?_
  refine fo_iload (k := 5) (fa_329 rfl) ?_
  refine fo_iconst (fa_329 rfl) fk_c_4 ?_
  refine fo_iadd (fa_329 rfl) ?_
  refine fo_sia (fa_329 rfl) ?_
  refine fo_virtual (by decide) fna_229 (fo_call (fa_329 rfl) fNs_virtual fsm_229 (by decide) fFil_2 fna_229 fx_229 (by rw [fP_229]; rfl) fh_329 ?_)
  refine fo_istore (k := 7) (fa_329 rfl) ?_
  refine fo_aload_n (k := 2) (fa_329 rfl) ?_
  refine fo_virtual (by decide) fna_170 (fo_call (fa_329 rfl) fNs_virtual fsm_170 (by decide) fFil_0 fna_170 fx_170 (by rw [fP_170]; rfl) fh_329 ?_)
  refine fo_iload (k := 6) (fa_329 rfl) ?_
  refine fo_icmp_eq (fa_329 rfl) (pcT := 2174) rfl fs_329_2174 ?_
  refine fo_iconst (fa_329 rfl) fk_c_0 ?_
  exact fo_iret (fa_329 rfl) fr_329 fw_bool
theorem fs_329_2099 : fSB 329 [0, 28] 7 2099 f_329_2099 := by
  unfold f_329_2099
  exact fo_goto (fa_329 rfl) (pcT := 4039) rfl fs_329_4039
theorem fs_329_2082 : fSB 329 [0, 28] 7 2082 f_329_2082 := by
  unfold f_329_2082
  refine fo_iload (k := 6) (fa_329 rfl) ?_
  refine fo_if_ne (fa_329 rfl) (pcT := 2099) rfl fs_329_2099 ?_
  refine fo_aload_n (k := 3) (fa_329 rfl) ?_
  refine fo_iconst (fa_329 rfl) fk_c_0 ?_
  refine fo_laload (fa_329 rfl) ?_
  refine fo_iload (k := 7) (fa_329 rfl) ?_
  refine fo_i2l (fa_329 rfl) ?_
  refine fo_lcmp (fa_329 rfl) ?_
  refine fo_if_eq (fa_329 rfl) (pcT := 2099) rfl fs_329_2099 ?_
  refine fo_iconst (fa_329 rfl) fk_c_0 ?_
  exact fo_iret (fa_329 rfl) fr_329 fw_bool
theorem fs_329_2046 : fSB 329 [0, 28] 7 2046 f_329_2046 := by
  unfold f_329_2046
  refine fo_aload_n (k := 1) (fa_329 rfl) ?_
  refine fo_sld (fa_329 rfl) ?_
  refine fo_iload (k := 5) (fa_329 rfl) ?_
  refine fo_iconst (fa_329 rfl) fk_c_1 ?_
  refine fo_iadd (fa_329 rfl) ?_
  refine fo_sia (fa_329 rfl) ?_
  refine fo_aload_n (k := 3) (fa_329 rfl) ?_
  refine fo_static (by decide) (fo_callH (fa_329 rfl) fNs_static fsm_302 (by decide) fFil_1 fna_302 fx_302 (Or.inl rfl) fHd_nil ?_)
  refine fo_istore (k := 6) (fa_329 rfl) ?_
  refine fo_aload_n (k := 2) (fa_329 rfl) ?_
  refine fo_sld (fa_329 rfl) ?_
  refine fo_iload (k := 5) (fa_329 rfl) ?_
  refine fo_iconst (fa_329 rfl) fk_c_1 ?_
  refine fo_iadd (fa_329 rfl) ?_
  refine fo_sia (fa_329 rfl) ?_
  refine fo_virtual (by decide) fna_227 (fo_call (fa_329 rfl) fNs_virtual fsm_227 (by decide) fFil_1 fna_227 fx_227 (by rw [fP_227]; rfl) fh_329 ?_)
  refine fo_istore (k := 7) (fa_329 rfl) ?_
  refine fo_aload_n (k := 2) (fa_329 rfl) ?_
  refine fo_virtual (by decide) fna_170 (fo_call (fa_329 rfl) fNs_virtual fsm_170 (by decide) fFil_0 fna_170 fx_170 (by rw [fP_170]; rfl) fh_329 ?_)
  refine fo_iload (k := 6) (fa_329 rfl) ?_
  refine fo_icmp_eq (fa_329 rfl) (pcT := 2082) rfl fs_329_2082 ?_
  refine fo_iconst (fa_329 rfl) fk_c_0 ?_
  exact fo_iret (fa_329 rfl) fr_329 fw_bool
theorem fs_329_2043 : fSB 329 [0, 28] 7 2043 f_329_2043 := by
  unfold f_329_2043
  exact fo_goto (fa_329 rfl) (pcT := 4039) rfl fs_329_4039
theorem fs_329_2037 : fSB 329 [0, 28] 7 2037 f_329_2037 := by
  unfold f_329_2037
  refine fo_lcmp (fa_329 rfl) ?_
  refine fo_if_eq (fa_329 rfl) (pcT := 2043) rfl fs_329_2043 ?_
  refine fo_iconst (fa_329 rfl) fk_c_0 ?_
  exact fo_iret (fa_329 rfl) fr_329 fw_bool
theorem fs_329_2036 : fSB 329 [0, 28] 7 2036 f_329_2036 := by
  unfold f_329_2036
  refine fo_lconst (fa_329 rfl) rfl ?_
  exact fs_329_2037
theorem fs_329_2019 : fSB 329 [0, 28] 7 2019 f_329_2019 := by
  unfold f_329_2019
  refine fo_iload (k := 6) (fa_329 rfl) ?_
  refine fo_if_ne (fa_329 rfl) (pcT := 2043) rfl fs_329_2043 ?_
  refine fo_aload_n (k := 3) (fa_329 rfl) ?_
  refine fo_iconst (fa_329 rfl) fk_c_0 ?_
  refine fo_laload (fa_329 rfl) ?_
  refine fo_iload (k := 7) (fa_329 rfl) ?_
  refine fo_if_eq (fa_329 rfl) (pcT := 2036) rfl fs_329_2036 ?_
  refine fo_lconst (fa_329 rfl) rfl ?_
  exact fo_goto (fa_329 rfl) (pcT := 2037) rfl fs_329_2037
theorem fs_329_1983 : fSB 329 [0, 28] 7 1983 f_329_1983 := by
  unfold f_329_1983
  refine fo_aload_n (k := 1) (fa_329 rfl) ?_
  refine fo_sld (fa_329 rfl) ?_
  refine fo_iload (k := 5) (fa_329 rfl) ?_
  refine fo_iconst (fa_329 rfl) fk_c_1 ?_
  refine fo_iadd (fa_329 rfl) ?_
  refine fo_sia (fa_329 rfl) ?_
  refine fo_aload_n (k := 3) (fa_329 rfl) ?_
  refine fo_static (by decide) (fo_callH (fa_329 rfl) fNs_static fsm_301 (by decide) fFil_1 fna_301 fx_301 (Or.inl rfl) fHd_nil ?_)
  refine fo_istore (k := 6) (fa_329 rfl) ?_
  refine fo_aload_n (k := 2) (fa_329 rfl) ?_
  refine fo_sld (fa_329 rfl) ?_
  refine fo_iload (k := 5) (fa_329 rfl) ?_
  refine fo_iconst (fa_329 rfl) fk_c_1 ?_
  refine fo_iadd (fa_329 rfl) ?_
  refine fo_sia (fa_329 rfl) ?_
  refine fo_virtual (by decide) fna_224 (fo_call (fa_329 rfl) fNs_virtual fsm_224 (by decide) fFil_1 fna_224 fx_224 (by rw [fP_224]; rfl) fh_329 ?_)
  refine fo_istore (k := 7) (fa_329 rfl) ?_
  refine fo_aload_n (k := 2) (fa_329 rfl) ?_
  refine fo_virtual (by decide) fna_170 (fo_call (fa_329 rfl) fNs_virtual fsm_170 (by decide) fFil_0 fna_170 fx_170 (by rw [fP_170]; rfl) fh_329 ?_)
  refine fo_iload (k := 6) (fa_329 rfl) ?_
  refine fo_icmp_eq (fa_329 rfl) (pcT := 2019) rfl fs_329_2019 ?_
  refine fo_iconst (fa_329 rfl) fk_c_0 ?_
  exact fo_iret (fa_329 rfl) fr_329 fw_bool
theorem fs_329_1980 : fSB 329 [0, 28] 7 1980 f_329_1980 := by
  unfold f_329_1980
  exact fo_goto (fa_329 rfl) (pcT := 4039) rfl fs_329_4039
theorem fs_329_1963 : fSB 329 [0, 28] 7 1963 f_329_1963 := by
  unfold f_329_1963
  refine fo_iload (k := 6) (fa_329 rfl) ?_
  refine fo_if_ne (fa_329 rfl) (pcT := 1980) rfl fs_329_1980 ?_
  refine fo_aload_n (k := 3) (fa_329 rfl) ?_
  refine fo_iconst (fa_329 rfl) fk_c_0 ?_
  refine fo_laload (fa_329 rfl) ?_
  refine fo_iload (k := 7) (fa_329 rfl) ?_
  refine fo_i2l (fa_329 rfl) ?_
  refine fo_lcmp (fa_329 rfl) ?_
  refine fo_if_eq (fa_329 rfl) (pcT := 1980) rfl fs_329_1980 ?_
  refine fo_iconst (fa_329 rfl) fk_c_0 ?_
  exact fo_iret (fa_329 rfl) fr_329 fw_bool
theorem fs_329_1903 : fSB 329 [0, 28] 7 1903 f_329_1903 := by
  unfold f_329_1903
  refine fo_aload_n (k := 1) (fa_329 rfl) ?_
  refine fo_sld (fa_329 rfl) ?_
  refine fo_iload (k := 5) (fa_329 rfl) ?_
  refine fo_iconst (fa_329 rfl) fk_c_1 ?_
  refine fo_iadd (fa_329 rfl) ?_
  refine fo_sia (fa_329 rfl) ?_
  refine fo_sld (fa_329 rfl) ?_
  refine fo_iload (k := 5) (fa_329 rfl) ?_
  refine fo_iconst (fa_329 rfl) fk_c_2 ?_
  refine fo_iadd (fa_329 rfl) ?_
  refine fo_sia (fa_329 rfl) ?_
  refine fo_sld (fa_329 rfl) ?_
  refine fo_iload (k := 5) (fa_329 rfl) ?_
  refine fo_iconst (fa_329 rfl) fk_c_3 ?_
  refine fo_iadd (fa_329 rfl) ?_
  refine fo_sia (fa_329 rfl) ?_
  refine fo_aload_n (k := 3) (fa_329 rfl) ?_
  refine fo_static (by decide) (fo_callH (fa_329 rfl) fNs_static fsm_300 (by decide) fFil_1 fna_300 fx_300 (Or.inl rfl) fHd_nil ?_)
  refine fo_istore (k := 6) (fa_329 rfl) ?_
  refine fo_aload_n (k := 2) (fa_329 rfl) ?_
  refine fo_sld (fa_329 rfl) ?_
  refine fo_iload (k := 5) (fa_329 rfl) ?_
  refine fo_iconst (fa_329 rfl) fk_c_1 ?_
  refine fo_iadd (fa_329 rfl) ?_
  refine fo_sia (fa_329 rfl) ?_
  refine fo_sld (fa_329 rfl) ?_
  refine fo_iload (k := 5) (fa_329 rfl) ?_
  refine fo_iconst (fa_329 rfl) fk_c_2 ?_
  refine fo_iadd (fa_329 rfl) ?_
  refine fo_sia (fa_329 rfl) ?_
  refine fo_sld (fa_329 rfl) ?_
  refine fo_iload (k := 5) (fa_329 rfl) ?_
  refine fo_iconst (fa_329 rfl) fk_c_3 ?_
  refine fo_iadd (fa_329 rfl) ?_
  refine fo_sia (fa_329 rfl) ?_
  refine fo_virtual (by decide) fna_222 (fo_call (fa_329 rfl) fNs_virtual fsm_222 (by decide) fFil_2 fna_222 fx_222 (by rw [fP_222]; rfl) fh_329 ?_)
  refine fo_istore (k := 7) (fa_329 rfl) ?_
  refine fo_aload_n (k := 2) (fa_329 rfl) ?_
  refine fo_virtual (by decide) fna_170 (fo_call (fa_329 rfl) fNs_virtual fsm_170 (by decide) fFil_0 fna_170 fx_170 (by rw [fP_170]; rfl) fh_329 ?_)
  refine fo_iload (k := 6) (fa_329 rfl) ?_
  refine fo_icmp_eq (fa_329 rfl) (pcT := 1963) rfl fs_329_1963 ?_
  refine fo_iconst (fa_329 rfl) fk_c_0 ?_
  exact fo_iret (fa_329 rfl) fr_329 fw_bool
theorem fs_329_1900 : fSB 329 [0, 28] 7 1900 f_329_1900 := by
  unfold f_329_1900
  exact fo_goto (fa_329 rfl) (pcT := 4039) rfl fs_329_4039
theorem fs_329_1883 : fSB 329 [0, 28] 7 1883 f_329_1883 := by
  unfold f_329_1883
  refine fo_iload (k := 6) (fa_329 rfl) ?_
  refine fo_if_ne (fa_329 rfl) (pcT := 1900) rfl fs_329_1900 ?_
  refine fo_aload_n (k := 3) (fa_329 rfl) ?_
  refine fo_iconst (fa_329 rfl) fk_c_0 ?_
  refine fo_laload (fa_329 rfl) ?_
  refine fo_iload (k := 7) (fa_329 rfl) ?_
  refine fo_i2l (fa_329 rfl) ?_
  refine fo_lcmp (fa_329 rfl) ?_
  refine fo_if_eq (fa_329 rfl) (pcT := 1900) rfl fs_329_1900 ?_
  refine fo_iconst (fa_329 rfl) fk_c_0 ?_
  exact fo_iret (fa_329 rfl) fr_329 fw_bool
theorem fs_329_1835 : fSB 329 [0, 28] 7 1835 f_329_1835 := by
  unfold f_329_1835
  refine fo_aload_n (k := 1) (fa_329 rfl) ?_
  refine fo_sld (fa_329 rfl) ?_
  refine fo_iload (k := 5) (fa_329 rfl) ?_
  refine fo_iconst (fa_329 rfl) fk_c_1 ?_
  refine fo_iadd (fa_329 rfl) ?_
  refine fo_sia (fa_329 rfl) ?_
  refine fo_sld (fa_329 rfl) ?_
  refine fo_iload (k := 5) (fa_329 rfl) ?_
  refine fo_iconst (fa_329 rfl) fk_c_2 ?_
  refine fo_iadd (fa_329 rfl) ?_
  refine fo_sia (fa_329 rfl) ?_
  refine fo_aload_n (k := 3) (fa_329 rfl) ?_
  refine fo_static (by decide) (fo_callH (fa_329 rfl) fNs_static fsm_299 (by decide) fFil_1 fna_299 fx_299 (Or.inl rfl) fHd_nil ?_)
  refine fo_istore (k := 6) (fa_329 rfl) ?_
  refine fo_aload_n (k := 2) (fa_329 rfl) ?_
  refine fo_sld (fa_329 rfl) ?_
  refine fo_iload (k := 5) (fa_329 rfl) ?_
  refine fo_iconst (fa_329 rfl) fk_c_1 ?_
  refine fo_iadd (fa_329 rfl) ?_
  refine fo_sia (fa_329 rfl) ?_
  refine fo_sld (fa_329 rfl) ?_
  refine fo_iload (k := 5) (fa_329 rfl) ?_
  refine fo_iconst (fa_329 rfl) fk_c_2 ?_
  refine fo_iadd (fa_329 rfl) ?_
  refine fo_sia (fa_329 rfl) ?_
  refine fo_virtual (by decide) fna_221 (fo_call (fa_329 rfl) fNs_virtual fsm_221 (by decide) fFil_2 fna_221 fx_221 (by rw [fP_221]; rfl) fh_329 ?_)
  refine fo_istore (k := 7) (fa_329 rfl) ?_
  refine fo_aload_n (k := 2) (fa_329 rfl) ?_
  refine fo_virtual (by decide) fna_170 (fo_call (fa_329 rfl) fNs_virtual fsm_170 (by decide) fFil_0 fna_170 fx_170 (by rw [fP_170]; rfl) fh_329 ?_)
  refine fo_iload (k := 6) (fa_329 rfl) ?_
  refine fo_icmp_eq (fa_329 rfl) (pcT := 1883) rfl fs_329_1883 ?_
  refine fo_iconst (fa_329 rfl) fk_c_0 ?_
  exact fo_iret (fa_329 rfl) fr_329 fw_bool
theorem fs_329_1832 : fSB 329 [0, 28] 7 1832 f_329_1832 := by
  unfold f_329_1832
  exact fo_goto (fa_329 rfl) (pcT := 4039) rfl fs_329_4039
theorem fs_329_1815 : fSB 329 [0, 28] 7 1815 f_329_1815 := by
  unfold f_329_1815
  refine fo_iload (k := 6) (fa_329 rfl) ?_
  refine fo_if_ne (fa_329 rfl) (pcT := 1832) rfl fs_329_1832 ?_
  refine fo_aload_n (k := 3) (fa_329 rfl) ?_
  refine fo_iconst (fa_329 rfl) fk_c_0 ?_
  refine fo_laload (fa_329 rfl) ?_
  refine fo_iload (k := 7) (fa_329 rfl) ?_
  refine fo_i2l (fa_329 rfl) ?_
  refine fo_lcmp (fa_329 rfl) ?_
  refine fo_if_eq (fa_329 rfl) (pcT := 1832) rfl fs_329_1832 ?_
  refine fo_iconst (fa_329 rfl) fk_c_0 ?_
  exact fo_iret (fa_329 rfl) fr_329 fw_bool
theorem fs_329_1779 : fSB 329 [0, 28] 7 1779 f_329_1779 := by
  unfold f_329_1779
  refine fo_aload_n (k := 1) (fa_329 rfl) ?_
  refine fo_sld (fa_329 rfl) ?_
  refine fo_iload (k := 5) (fa_329 rfl) ?_
  refine fo_iconst (fa_329 rfl) fk_c_1 ?_
  refine fo_iadd (fa_329 rfl) ?_
  refine fo_sia (fa_329 rfl) ?_
  refine fo_aload_n (k := 3) (fa_329 rfl) ?_
  refine fo_static (by decide) (fo_callH (fa_329 rfl) fNs_static fsm_298 (by decide) fFil_1 fna_298 fx_298 (Or.inl rfl) fHd_nil ?_)
  refine fo_istore (k := 6) (fa_329 rfl) ?_
  refine fo_aload_n (k := 2) (fa_329 rfl) ?_
  refine fo_sld (fa_329 rfl) ?_
  refine fo_iload (k := 5) (fa_329 rfl) ?_
  refine fo_iconst (fa_329 rfl) fk_c_1 ?_
  refine fo_iadd (fa_329 rfl) ?_
  refine fo_sia (fa_329 rfl) ?_
  refine fo_virtual (by decide) fna_220 (fo_call (fa_329 rfl) fNs_virtual fsm_220 (by decide) fFil_0 fna_220 fx_220 (by rw [fP_220]; rfl) fh_329 ?_)
  refine fo_istore (k := 7) (fa_329 rfl) ?_
  refine fo_aload_n (k := 2) (fa_329 rfl) ?_
  refine fo_virtual (by decide) fna_170 (fo_call (fa_329 rfl) fNs_virtual fsm_170 (by decide) fFil_0 fna_170 fx_170 (by rw [fP_170]; rfl) fh_329 ?_)
  refine fo_iload (k := 6) (fa_329 rfl) ?_
  refine fo_icmp_eq (fa_329 rfl) (pcT := 1815) rfl fs_329_1815 ?_
  refine fo_iconst (fa_329 rfl) fk_c_0 ?_
  exact fo_iret (fa_329 rfl) fr_329 fw_bool
theorem fs_329_1776 : fSB 329 [0, 28] 7 1776 f_329_1776 := by
  unfold f_329_1776
  exact fo_goto (fa_329 rfl) (pcT := 4039) rfl fs_329_4039
theorem fs_329_1759 : fSB 329 [0, 28] 7 1759 f_329_1759 := by
  unfold f_329_1759
  refine fo_iload (k := 6) (fa_329 rfl) ?_
  refine fo_if_ne (fa_329 rfl) (pcT := 1776) rfl fs_329_1776 ?_
  refine fo_aload_n (k := 3) (fa_329 rfl) ?_
  refine fo_iconst (fa_329 rfl) fk_c_0 ?_
  refine fo_laload (fa_329 rfl) ?_
  refine fo_iload (k := 7) (fa_329 rfl) ?_
  refine fo_i2l (fa_329 rfl) ?_
  refine fo_lcmp (fa_329 rfl) ?_
  refine fo_if_eq (fa_329 rfl) (pcT := 1776) rfl fs_329_1776 ?_
  refine fo_iconst (fa_329 rfl) fk_c_0 ?_
  exact fo_iret (fa_329 rfl) fr_329 fw_bool
theorem fs_329_1737 : fSB 329 [0, 28] 7 1737 f_329_1737 := by
  unfold f_329_1737
  refine fo_sld (fa_329 rfl) ?_
  refine fo_iload (k := 5) (fa_329 rfl) ?_
  refine fo_iconst (fa_329 rfl) fk_c_4 ?_
  refine fo_iadd (fa_329 rfl) ?_
  refine fo_sia (fa_329 rfl) ?_
  refine fo_virtual (by decide) fna_215 (fo_call (fa_329 rfl) fNs_virtual fsm_215 (by decide) fFil_9 fna_215 fx_215 (by rw [fP_215]; rfl) fh_329 ?_)
  refine fo_istore (k := 7) (fa_329 rfl) ?_
  refine fo_aload_n (k := 2) (fa_329 rfl) ?_
  refine fo_virtual (by decide) fna_170 (fo_call (fa_329 rfl) fNs_virtual fsm_170 (by decide) fFil_0 fna_170 fx_170 (by rw [fP_170]; rfl) fh_329 ?_)
  refine fo_iload (k := 6) (fa_329 rfl) ?_
  refine fo_icmp_eq (fa_329 rfl) (pcT := 1759) rfl fs_329_1759 ?_
  refine fo_iconst (fa_329 rfl) fk_c_0 ?_
  exact fo_iret (fa_329 rfl) fr_329 fw_bool
theorem fs_329_1736 : fSB 329 [0, 28] 7 1736 f_329_1736 := by
  unfold f_329_1736
  refine fo_iconst (fa_329 rfl) fk_c_0 ?_
  exact fs_329_1737
theorem fs_329_1698 : fSB 329 [0, 28] 7 1698 f_329_1698 := by
  unfold f_329_1698
  refine fo_sld (fa_329 rfl) ?_
  refine fo_iload (k := 5) (fa_329 rfl) ?_
  refine fo_iconst (fa_329 rfl) fk_c_4 ?_
  refine fo_iadd (fa_329 rfl) ?_
  refine fo_sia (fa_329 rfl) ?_
  refine fo_aload_n (k := 3) (fa_329 rfl) ?_
  refine fo_static (by decide) (fo_callH (fa_329 rfl) fNs_static fsm_297 (by decide) fFil_1 fna_297 fx_297 (Or.inl rfl) fHd_nil ?_)
  refine fo_istore (k := 6) (fa_329 rfl) ?_
  refine fo_aload_n (k := 2) (fa_329 rfl) ?_
  refine fo_sld (fa_329 rfl) ?_
  refine fo_iload (k := 5) (fa_329 rfl) ?_
  refine fo_iconst (fa_329 rfl) fk_c_1 ?_
  refine fo_iadd (fa_329 rfl) ?_
  refine fo_sia (fa_329 rfl) ?_
  refine fo_sld (fa_329 rfl) ?_
  refine fo_iload (k := 5) (fa_329 rfl) ?_
  refine fo_iconst (fa_329 rfl) fk_c_2 ?_
  refine fo_iadd (fa_329 rfl) ?_
  refine fo_sia (fa_329 rfl) ?_
  refine fo_sld (fa_329 rfl) ?_
  refine fo_iload (k := 5) (fa_329 rfl) ?_
  refine fo_iconst (fa_329 rfl) fk_c_3 ?_
  refine fo_iadd (fa_329 rfl) ?_
  refine fo_sia (fa_329 rfl) ?_
  refine fo_if_eq (fa_329 rfl) (pcT := 1736) rfl fs_329_1736 ?_
  refine fo_iconst (fa_329 rfl) fk_c_1 ?_
  exact fo_goto (fa_329 rfl) (pcT := 1737) rfl fs_329_1737
theorem fs_329_1697 : fSB 329 [0, 28] 7 1697 f_329_1697 := by
  unfold f_329_1697
  refine fo_iconst (fa_329 rfl) fk_c_0 ?_
  exact fs_329_1698
theorem fs_329_1671 : fSB 329 [0, 28] 7 1671 f_329_1671 := by
  unfold f_329_1671
  refine fo_aload_n (k := 1) (fa_329 rfl) ?_
  refine fo_sld (fa_329 rfl) ?_
  refine fo_iload (k := 5) (fa_329 rfl) ?_
  refine fo_iconst (fa_329 rfl) fk_c_1 ?_
  refine fo_iadd (fa_329 rfl) ?_
  refine fo_sia (fa_329 rfl) ?_
  refine fo_sld (fa_329 rfl) ?_
  refine fo_iload (k := 5) (fa_329 rfl) ?_
  refine fo_iconst (fa_329 rfl) fk_c_2 ?_
  refine fo_iadd (fa_329 rfl) ?_
  refine fo_sia (fa_329 rfl) ?_
  refine fo_sld (fa_329 rfl) ?_
  refine fo_iload (k := 5) (fa_329 rfl) ?_
  refine fo_iconst (fa_329 rfl) fk_c_3 ?_
  refine fo_iadd (fa_329 rfl) ?_
  refine fo_sia (fa_329 rfl) ?_
  refine fo_if_eq (fa_329 rfl) (pcT := 1697) rfl fs_329_1697 ?_
  refine fo_iconst (fa_329 rfl) fk_c_1 ?_
  exact fo_goto (fa_329 rfl) (pcT := 1698) rfl fs_329_1698
theorem fs_329_1668 : fSB 329 [0, 28] 7 1668 f_329_1668 := by
  unfold f_329_1668
  exact fo_goto (fa_329 rfl) (pcT := 4039) rfl fs_329_4039
theorem fs_329_1651 : fSB 329 [0, 28] 7 1651 f_329_1651 := by
  unfold f_329_1651
  refine fo_iload (k := 6) (fa_329 rfl) ?_
  refine fo_if_ne (fa_329 rfl) (pcT := 1668) rfl fs_329_1668 ?_
  refine fo_aload_n (k := 3) (fa_329 rfl) ?_
  refine fo_iconst (fa_329 rfl) fk_c_0 ?_
  refine fo_laload (fa_329 rfl) ?_
  refine fo_iload (k := 7) (fa_329 rfl) ?_
  refine fo_i2l (fa_329 rfl) ?_
  refine fo_lcmp (fa_329 rfl) ?_
  refine fo_if_eq (fa_329 rfl) (pcT := 1668) rfl fs_329_1668 ?_
  refine fo_iconst (fa_329 rfl) fk_c_0 ?_
  exact fo_iret (fa_329 rfl) fr_329 fw_bool
theorem fs_329_1603 : fSB 329 [0, 28] 7 1603 f_329_1603 := by
  unfold f_329_1603
  refine fo_aload_n (k := 1) (fa_329 rfl) ?_
  refine fo_sld (fa_329 rfl) ?_
  refine fo_iload (k := 5) (fa_329 rfl) ?_
  refine fo_iconst (fa_329 rfl) fk_c_1 ?_
  refine fo_iadd (fa_329 rfl) ?_
  refine fo_sia (fa_329 rfl) ?_
  refine fo_sld (fa_329 rfl) ?_
  refine fo_iload (k := 5) (fa_329 rfl) ?_
  refine fo_iconst (fa_329 rfl) fk_c_2 ?_
  refine fo_iadd (fa_329 rfl) ?_
  refine fo_sia (fa_329 rfl) ?_
  refine fo_aload_n (k := 3) (fa_329 rfl) ?_
  refine fo_static (by decide) (fo_callH (fa_329 rfl) fNs_static fsm_296 (by decide) fFil_1 fna_296 fx_296 (Or.inl rfl) fHd_nil ?_)
  refine fo_istore (k := 6) (fa_329 rfl) ?_
  refine fo_aload_n (k := 2) (fa_329 rfl) ?_
  refine fo_sld (fa_329 rfl) ?_
  refine fo_iload (k := 5) (fa_329 rfl) ?_
  refine fo_iconst (fa_329 rfl) fk_c_1 ?_
  refine fo_iadd (fa_329 rfl) ?_
  refine fo_sia (fa_329 rfl) ?_
  refine fo_sld (fa_329 rfl) ?_
  refine fo_iload (k := 5) (fa_329 rfl) ?_
  refine fo_iconst (fa_329 rfl) fk_c_2 ?_
  refine fo_iadd (fa_329 rfl) ?_
  refine fo_sia (fa_329 rfl) ?_
  refine fo_virtual (by decide) fna_214 (fo_call (fa_329 rfl) fNs_virtual fsm_214 (by decide) fFil_7 fna_214 fx_214 (by rw [fP_214]; rfl) fh_329 ?_)
  refine fo_istore (k := 7) (fa_329 rfl) ?_
  refine fo_aload_n (k := 2) (fa_329 rfl) ?_
  refine fo_virtual (by decide) fna_170 (fo_call (fa_329 rfl) fNs_virtual fsm_170 (by decide) fFil_0 fna_170 fx_170 (by rw [fP_170]; rfl) fh_329 ?_)
  refine fo_iload (k := 6) (fa_329 rfl) ?_
  refine fo_icmp_eq (fa_329 rfl) (pcT := 1651) rfl fs_329_1651 ?_
  refine fo_iconst (fa_329 rfl) fk_c_0 ?_
  exact fo_iret (fa_329 rfl) fr_329 fw_bool
theorem fs_329_1600 : fSB 329 [0, 28] 7 1600 f_329_1600 := by
  unfold f_329_1600
  exact fo_goto (fa_329 rfl) (pcT := 4039) rfl fs_329_4039
theorem fs_329_1583 : fSB 329 [0, 28] 7 1583 f_329_1583 := by
  unfold f_329_1583
  refine fo_iload (k := 6) (fa_329 rfl) ?_
  refine fo_if_ne (fa_329 rfl) (pcT := 1600) rfl fs_329_1600 ?_
  refine fo_aload_n (k := 3) (fa_329 rfl) ?_
  refine fo_iconst (fa_329 rfl) fk_c_0 ?_
  refine fo_laload (fa_329 rfl) ?_
  refine fo_iload (k := 7) (fa_329 rfl) ?_
  refine fo_i2l (fa_329 rfl) ?_
  refine fo_lcmp (fa_329 rfl) ?_
  refine fo_if_eq (fa_329 rfl) (pcT := 1600) rfl fs_329_1600 ?_
  refine fo_iconst (fa_329 rfl) fk_c_0 ?_
  exact fo_iret (fa_329 rfl) fr_329 fw_bool
theorem fs_329_1535 : fSB 329 [0, 28] 7 1535 f_329_1535 := by
  unfold f_329_1535
  refine fo_aload_n (k := 1) (fa_329 rfl) ?_
  refine fo_sld (fa_329 rfl) ?_
  refine fo_iload (k := 5) (fa_329 rfl) ?_
  refine fo_iconst (fa_329 rfl) fk_c_1 ?_
  refine fo_iadd (fa_329 rfl) ?_
  refine fo_sia (fa_329 rfl) ?_
  refine fo_sld (fa_329 rfl) ?_
  refine fo_iload (k := 5) (fa_329 rfl) ?_
  refine fo_iconst (fa_329 rfl) fk_c_2 ?_
  refine fo_iadd (fa_329 rfl) ?_
  refine fo_sia (fa_329 rfl) ?_
  refine fo_aload_n (k := 3) (fa_329 rfl) ?_
  refine fo_static (by decide) (fo_callH (fa_329 rfl) fNs_static fsm_295 (by decide) fFil_1 fna_295 fx_295 (Or.inl rfl) fHd_nil ?_)
  refine fo_istore (k := 6) (fa_329 rfl) ?_
  refine fo_aload_n (k := 2) (fa_329 rfl) ?_
  refine fo_sld (fa_329 rfl) ?_
  refine fo_iload (k := 5) (fa_329 rfl) ?_
  refine fo_iconst (fa_329 rfl) fk_c_1 ?_
  refine fo_iadd (fa_329 rfl) ?_
  refine fo_sia (fa_329 rfl) ?_
  refine fo_sld (fa_329 rfl) ?_
  refine fo_iload (k := 5) (fa_329 rfl) ?_
  refine fo_iconst (fa_329 rfl) fk_c_2 ?_
  refine fo_iadd (fa_329 rfl) ?_
  refine fo_sia (fa_329 rfl) ?_
  refine fo_virtual (by decide) fna_213 (fo_call (fa_329 rfl) fNs_virtual fsm_213 (by decide) fFil_5 fna_213 fx_213 (by rw [fP_213]; rfl) fh_329 ?_)
  refine fo_istore (k := 7) (fa_329 rfl) ?_
  refine fo_aload_n (k := 2) (fa_329 rfl) ?_
  refine fo_virtual (by decide) fna_170 (fo_call (fa_329 rfl) fNs_virtual fsm_170 (by decide) fFil_0 fna_170 fx_170 (by rw [fP_170]; rfl) fh_329 ?_)
  refine fo_iload (k := 6) (fa_329 rfl) ?_
  refine fo_icmp_eq (fa_329 rfl) (pcT := 1583) rfl fs_329_1583 ?_
  refine fo_iconst (fa_329 rfl) fk_c_0 ?_
  exact fo_iret (fa_329 rfl) fr_329 fw_bool
theorem fs_329_1532 : fSB 329 [0, 28] 7 1532 f_329_1532 := by
  unfold f_329_1532
  exact fo_goto (fa_329 rfl) (pcT := 4039) rfl fs_329_4039
theorem fs_329_1515 : fSB 329 [0, 28] 7 1515 f_329_1515 := by
  unfold f_329_1515
  refine fo_iload (k := 6) (fa_329 rfl) ?_
  refine fo_if_ne (fa_329 rfl) (pcT := 1532) rfl fs_329_1532 ?_
  refine fo_aload_n (k := 3) (fa_329 rfl) ?_
  refine fo_iconst (fa_329 rfl) fk_c_0 ?_
  refine fo_laload (fa_329 rfl) ?_
  refine fo_iload (k := 7) (fa_329 rfl) ?_
  refine fo_i2l (fa_329 rfl) ?_
  refine fo_lcmp (fa_329 rfl) ?_
  refine fo_if_eq (fa_329 rfl) (pcT := 1532) rfl fs_329_1532 ?_
  refine fo_iconst (fa_329 rfl) fk_c_0 ?_
  exact fo_iret (fa_329 rfl) fr_329 fw_bool
theorem fs_329_1455 : fSB 329 [0, 28] 7 1455 f_329_1455 := by
  unfold f_329_1455
  refine fo_aload_n (k := 1) (fa_329 rfl) ?_
  refine fo_sld (fa_329 rfl) ?_
  refine fo_iload (k := 5) (fa_329 rfl) ?_
  refine fo_iconst (fa_329 rfl) fk_c_1 ?_
  refine fo_iadd (fa_329 rfl) ?_
  refine fo_sia (fa_329 rfl) ?_
  refine fo_sld (fa_329 rfl) ?_
  refine fo_iload (k := 5) (fa_329 rfl) ?_
  refine fo_iconst (fa_329 rfl) fk_c_2 ?_
  refine fo_iadd (fa_329 rfl) ?_
  refine fo_sia (fa_329 rfl) ?_
  refine fo_sld (fa_329 rfl) ?_
  refine fo_iload (k := 5) (fa_329 rfl) ?_
  refine fo_iconst (fa_329 rfl) fk_c_3 ?_
  refine fo_iadd (fa_329 rfl) ?_
  refine fo_sia (fa_329 rfl) ?_
  refine fo_aload_n (k := 3) (fa_329 rfl) ?_
  refine fo_static (by decide) (fo_callH (fa_329 rfl) fNs_static fsm_294 (by decide) fFil_1 fna_294 fx_294 (Or.inl rfl) fHd_nil ?_)
  refine fo_istore (k := 6) (fa_329 rfl) ?_
  refine fo_aload_n (k := 2) (fa_329 rfl) ?_
  refine fo_sld (fa_329 rfl) ?_
  refine fo_iload (k := 5) (fa_329 rfl) ?_
  refine fo_iconst (fa_329 rfl) fk_c_1 ?_
  refine fo_iadd (fa_329 rfl) ?_
  refine fo_sia (fa_329 rfl) ?_
  refine fo_sld (fa_329 rfl) ?_
  refine fo_iload (k := 5) (fa_329 rfl) ?_
  refine fo_iconst (fa_329 rfl) fk_c_2 ?_
  refine fo_iadd (fa_329 rfl) ?_
  refine fo_sia (fa_329 rfl) ?_
  refine fo_sld (fa_329 rfl) ?_
  refine fo_iload (k := 5) (fa_329 rfl) ?_
  refine fo_iconst (fa_329 rfl) fk_c_3 ?_
  refine fo_iadd (fa_329 rfl) ?_
  refine fo_sia (fa_329 rfl) ?_
  refine fo_virtual (by decide) fna_212 (fo_call (fa_329 rfl) fNs_virtual fsm_212 (by decide) fFil_8 fna_212 fx_212 (by rw [fP_212]; rfl) fh_329 ?_)
  refine fo_istore (k := 7) (fa_329 rfl) ?_
  refine fo_aload_n (k := 2) (fa_329 rfl) ?_
  refine fo_virtual (by decide) fna_170 (fo_call (fa_329 rfl) fNs_virtual fsm_170 (by decide) fFil_0 fna_170 fx_170 (by rw [fP_170]; rfl) fh_329 ?_)
  refine fo_iload (k := 6) (fa_329 rfl) ?_
  refine fo_icmp_eq (fa_329 rfl) (pcT := 1515) rfl fs_329_1515 ?_
  refine fo_iconst (fa_329 rfl) fk_c_0 ?_
  exact fo_iret (fa_329 rfl) fr_329 fw_bool
theorem fs_329_1452 : fSB 329 [0, 28] 7 1452 f_329_1452 := by
  unfold f_329_1452
  exact fo_goto (fa_329 rfl) (pcT := 4039) rfl fs_329_4039
theorem fs_329_1435 : fSB 329 [0, 28] 7 1435 f_329_1435 := by
  unfold f_329_1435
  refine fo_iload (k := 6) (fa_329 rfl) ?_
  refine fo_if_ne (fa_329 rfl) (pcT := 1452) rfl fs_329_1452 ?_
  refine fo_aload_n (k := 3) (fa_329 rfl) ?_
  refine fo_iconst (fa_329 rfl) fk_c_0 ?_
  refine fo_laload (fa_329 rfl) ?_
  refine fo_iload (k := 7) (fa_329 rfl) ?_
  refine fo_i2l (fa_329 rfl) ?_
  refine fo_lcmp (fa_329 rfl) ?_
  refine fo_if_eq (fa_329 rfl) (pcT := 1452) rfl fs_329_1452 ?_
  refine fo_iconst (fa_329 rfl) fk_c_0 ?_
  exact fo_iret (fa_329 rfl) fr_329 fw_bool
theorem fs_329_1399 : fSB 329 [0, 28] 7 1399 f_329_1399 := by
  unfold f_329_1399
  refine fo_aload_n (k := 1) (fa_329 rfl) ?_
  refine fo_sld (fa_329 rfl) ?_
  refine fo_iload (k := 5) (fa_329 rfl) ?_
  refine fo_iconst (fa_329 rfl) fk_c_1 ?_
  refine fo_iadd (fa_329 rfl) ?_
  refine fo_sia (fa_329 rfl) ?_
  refine fo_aload_n (k := 3) (fa_329 rfl) ?_
  refine fo_static (by decide) (fo_callH (fa_329 rfl) fNs_static fsm_293 (by decide) fFil_1 fna_293 fx_293 (Or.inl rfl) fHd_nil ?_)
  refine fo_istore (k := 6) (fa_329 rfl) ?_
  refine fo_aload_n (k := 2) (fa_329 rfl) ?_
  refine fo_sld (fa_329 rfl) ?_
  refine fo_iload (k := 5) (fa_329 rfl) ?_
  refine fo_iconst (fa_329 rfl) fk_c_1 ?_
  refine fo_iadd (fa_329 rfl) ?_
  refine fo_sia (fa_329 rfl) ?_
  refine fo_virtual (by decide) fna_211 (fo_call (fa_329 rfl) fNs_virtual fsm_211 (by decide) fFil_0 fna_211 fx_211 (by rw [fP_211]; rfl) fh_329 ?_)
  refine fo_istore (k := 7) (fa_329 rfl) ?_
  refine fo_aload_n (k := 2) (fa_329 rfl) ?_
  refine fo_virtual (by decide) fna_170 (fo_call (fa_329 rfl) fNs_virtual fsm_170 (by decide) fFil_0 fna_170 fx_170 (by rw [fP_170]; rfl) fh_329 ?_)
  refine fo_iload (k := 6) (fa_329 rfl) ?_
  refine fo_icmp_eq (fa_329 rfl) (pcT := 1435) rfl fs_329_1435 ?_
  refine fo_iconst (fa_329 rfl) fk_c_0 ?_
  exact fo_iret (fa_329 rfl) fr_329 fw_bool
theorem fs_329_1396 : fSB 329 [0, 28] 7 1396 f_329_1396 := by
  unfold f_329_1396
  exact fo_goto (fa_329 rfl) (pcT := 4039) rfl fs_329_4039
theorem fs_329_1390 : fSB 329 [0, 28] 7 1390 f_329_1390 := by
  unfold f_329_1390
  refine fo_lcmp (fa_329 rfl) ?_
  refine fo_if_eq (fa_329 rfl) (pcT := 1396) rfl fs_329_1396 ?_
  refine fo_iconst (fa_329 rfl) fk_c_0 ?_
  exact fo_iret (fa_329 rfl) fr_329 fw_bool
theorem fs_329_1389 : fSB 329 [0, 28] 7 1389 f_329_1389 := by
  unfold f_329_1389
  refine fo_lconst (fa_329 rfl) rfl ?_
  exact fs_329_1390
theorem fs_329_1372 : fSB 329 [0, 28] 7 1372 f_329_1372 := by
  unfold f_329_1372
  refine fo_iload (k := 6) (fa_329 rfl) ?_
  refine fo_if_ne (fa_329 rfl) (pcT := 1396) rfl fs_329_1396 ?_
  refine fo_aload_n (k := 3) (fa_329 rfl) ?_
  refine fo_iconst (fa_329 rfl) fk_c_0 ?_
  refine fo_laload (fa_329 rfl) ?_
  refine fo_iload (k := 7) (fa_329 rfl) ?_
  refine fo_if_eq (fa_329 rfl) (pcT := 1389) rfl fs_329_1389 ?_
  refine fo_lconst (fa_329 rfl) rfl ?_
  exact fo_goto (fa_329 rfl) (pcT := 1390) rfl fs_329_1390
theorem fs_329_1336 : fSB 329 [0, 28] 7 1336 f_329_1336 := by
  unfold f_329_1336
  refine fo_aload_n (k := 1) (fa_329 rfl) ?_
  refine fo_sld (fa_329 rfl) ?_
  refine fo_iload (k := 5) (fa_329 rfl) ?_
  refine fo_iconst (fa_329 rfl) fk_c_1 ?_
  refine fo_iadd (fa_329 rfl) ?_
  refine fo_sia (fa_329 rfl) ?_
  refine fo_aload_n (k := 3) (fa_329 rfl) ?_
  refine fo_static (by decide) (fo_callH (fa_329 rfl) fNs_static fsm_292 (by decide) fFil_1 fna_292 fx_292 (Or.inl rfl) fHd_nil ?_)
  refine fo_istore (k := 6) (fa_329 rfl) ?_
  refine fo_aload_n (k := 2) (fa_329 rfl) ?_
  refine fo_sld (fa_329 rfl) ?_
  refine fo_iload (k := 5) (fa_329 rfl) ?_
  refine fo_iconst (fa_329 rfl) fk_c_1 ?_
  refine fo_iadd (fa_329 rfl) ?_
  refine fo_sia (fa_329 rfl) ?_
  refine fo_virtual (by decide) fna_210 (fo_call (fa_329 rfl) fNs_virtual fsm_210 (by decide) fFil_3 fna_210 fx_210 (by rw [fP_210]; rfl) fh_329 ?_)
  refine fo_istore (k := 7) (fa_329 rfl) ?_
  refine fo_aload_n (k := 2) (fa_329 rfl) ?_
  refine fo_virtual (by decide) fna_170 (fo_call (fa_329 rfl) fNs_virtual fsm_170 (by decide) fFil_0 fna_170 fx_170 (by rw [fP_170]; rfl) fh_329 ?_)
  refine fo_iload (k := 6) (fa_329 rfl) ?_
  refine fo_icmp_eq (fa_329 rfl) (pcT := 1372) rfl fs_329_1372 ?_
  refine fo_iconst (fa_329 rfl) fk_c_0 ?_
  exact fo_iret (fa_329 rfl) fr_329 fw_bool
theorem fs_329_1333 : fSB 329 [0, 28] 7 1333 f_329_1333 := by
  unfold f_329_1333
  exact fo_goto (fa_329 rfl) (pcT := 4039) rfl fs_329_4039
theorem fs_329_1316 : fSB 329 [0, 28] 7 1316 f_329_1316 := by
  unfold f_329_1316
  refine fo_iload (k := 6) (fa_329 rfl) ?_
  refine fo_if_ne (fa_329 rfl) (pcT := 1333) rfl fs_329_1333 ?_
  refine fo_aload_n (k := 3) (fa_329 rfl) ?_
  refine fo_iconst (fa_329 rfl) fk_c_0 ?_
  refine fo_laload (fa_329 rfl) ?_
  refine fo_iload (k := 7) (fa_329 rfl) ?_
  refine fo_i2l (fa_329 rfl) ?_
  refine fo_lcmp (fa_329 rfl) ?_
  refine fo_if_eq (fa_329 rfl) (pcT := 1333) rfl fs_329_1333 ?_
  refine fo_iconst (fa_329 rfl) fk_c_0 ?_
  exact fo_iret (fa_329 rfl) fr_329 fw_bool
theorem fs_329_1256 : fSB 329 [0, 28] 7 1256 f_329_1256 := by
  unfold f_329_1256
  refine fo_aload_n (k := 1) (fa_329 rfl) ?_
  refine fo_sld (fa_329 rfl) ?_
  refine fo_iload (k := 5) (fa_329 rfl) ?_
  refine fo_iconst (fa_329 rfl) fk_c_1 ?_
  refine fo_iadd (fa_329 rfl) ?_
  refine fo_sia (fa_329 rfl) ?_
  refine fo_sld (fa_329 rfl) ?_
  refine fo_iload (k := 5) (fa_329 rfl) ?_
  refine fo_iconst (fa_329 rfl) fk_c_2 ?_
  refine fo_iadd (fa_329 rfl) ?_
  refine fo_sia (fa_329 rfl) ?_
  refine fo_sld (fa_329 rfl) ?_
  refine fo_iload (k := 5) (fa_329 rfl) ?_
  refine fo_iconst (fa_329 rfl) fk_c_3 ?_
  refine fo_iadd (fa_329 rfl) ?_
  refine fo_sia (fa_329 rfl) ?_
  refine fo_aload_n (k := 3) (fa_329 rfl) ?_
  refine fo_static (by decide) (fo_callH (fa_329 rfl) fNs_static fsm_291 (by decide) fFil_1 fna_291 fx_291 (Or.inl rfl) fHd_nil ?_)
  refine fo_istore (k := 6) (fa_329 rfl) ?_
  refine fo_aload_n (k := 2) (fa_329 rfl) ?_
  refine fo_sld (fa_329 rfl) ?_
  refine fo_iload (k := 5) (fa_329 rfl) ?_
  refine fo_iconst (fa_329 rfl) fk_c_1 ?_
  refine fo_iadd (fa_329 rfl) ?_
  refine fo_sia (fa_329 rfl) ?_
  refine fo_sld (fa_329 rfl) ?_
  refine fo_iload (k := 5) (fa_329 rfl) ?_
  refine fo_iconst (fa_329 rfl) fk_c_2 ?_
  refine fo_iadd (fa_329 rfl) ?_
  refine fo_sia (fa_329 rfl) ?_
  refine fo_sld (fa_329 rfl) ?_
  refine fo_iload (k := 5) (fa_329 rfl) ?_
  refine fo_iconst (fa_329 rfl) fk_c_3 ?_
  refine fo_iadd (fa_329 rfl) ?_
  refine fo_sia (fa_329 rfl) ?_
  refine fo_virtual (by decide) fna_208 (fo_call (fa_329 rfl) fNs_virtual fsm_208 (by decide) fFil_1 fna_208 fx_208 (by rw [fP_208]; rfl) fh_329 ?_)
  refine fo_istore (k := 7) (fa_329 rfl) ?_
  refine fo_aload_n (k := 2) (fa_329 rfl) ?_
  refine fo_virtual (by decide) fna_170 (fo_call (fa_329 rfl) fNs_virtual fsm_170 (by decide) fFil_0 fna_170 fx_170 (by rw [fP_170]; rfl) fh_329 ?_)
  refine fo_iload (k := 6) (fa_329 rfl) ?_
  refine fo_icmp_eq (fa_329 rfl) (pcT := 1316) rfl fs_329_1316 ?_
  refine fo_iconst (fa_329 rfl) fk_c_0 ?_
  exact fo_iret (fa_329 rfl) fr_329 fw_bool
theorem fs_329_1253 : fSB 329 [0, 28] 7 1253 f_329_1253 := by
  unfold f_329_1253
  exact fo_goto (fa_329 rfl) (pcT := 4039) rfl fs_329_4039
theorem fs_329_1236 : fSB 329 [0, 28] 7 1236 f_329_1236 := by
  unfold f_329_1236
  refine fo_iload (k := 6) (fa_329 rfl) ?_
  refine fo_if_ne (fa_329 rfl) (pcT := 1253) rfl fs_329_1253 ?_
  refine fo_aload_n (k := 3) (fa_329 rfl) ?_
  refine fo_iconst (fa_329 rfl) fk_c_0 ?_
  refine fo_laload (fa_329 rfl) ?_
  refine fo_iload (k := 7) (fa_329 rfl) ?_
  refine fo_i2l (fa_329 rfl) ?_
  refine fo_lcmp (fa_329 rfl) ?_
  refine fo_if_eq (fa_329 rfl) (pcT := 1253) rfl fs_329_1253 ?_
  refine fo_iconst (fa_329 rfl) fk_c_0 ?_
  exact fo_iret (fa_329 rfl) fr_329 fw_bool
theorem fs_329_1176 : fSB 329 [0, 28] 7 1176 f_329_1176 := by
  unfold f_329_1176
  refine fo_aload_n (k := 1) (fa_329 rfl) ?_
  refine fo_sld (fa_329 rfl) ?_
  refine fo_iload (k := 5) (fa_329 rfl) ?_
  refine fo_iconst (fa_329 rfl) fk_c_1 ?_
  refine fo_iadd (fa_329 rfl) ?_
  refine fo_sia (fa_329 rfl) ?_
  refine fo_sld (fa_329 rfl) ?_
  refine fo_iload (k := 5) (fa_329 rfl) ?_
  refine fo_iconst (fa_329 rfl) fk_c_2 ?_
  refine fo_iadd (fa_329 rfl) ?_
  refine fo_sia (fa_329 rfl) ?_
  refine fo_sld (fa_329 rfl) ?_
  refine fo_iload (k := 5) (fa_329 rfl) ?_
  refine fo_iconst (fa_329 rfl) fk_c_3 ?_
  refine fo_iadd (fa_329 rfl) ?_
  refine fo_sia (fa_329 rfl) ?_
  refine fo_aload_n (k := 3) (fa_329 rfl) ?_
  refine fo_static (by decide) (fo_callH (fa_329 rfl) fNs_static fsm_290 (by decide) fFil_1 fna_290 fx_290 (Or.inl rfl) fHd_nil ?_)
  refine fo_istore (k := 6) (fa_329 rfl) ?_
  refine fo_aload_n (k := 2) (fa_329 rfl) ?_
  refine fo_sld (fa_329 rfl) ?_
  refine fo_iload (k := 5) (fa_329 rfl) ?_
  refine fo_iconst (fa_329 rfl) fk_c_1 ?_
  refine fo_iadd (fa_329 rfl) ?_
  refine fo_sia (fa_329 rfl) ?_
  refine fo_sld (fa_329 rfl) ?_
  refine fo_iload (k := 5) (fa_329 rfl) ?_
  refine fo_iconst (fa_329 rfl) fk_c_2 ?_
  refine fo_iadd (fa_329 rfl) ?_
  refine fo_sia (fa_329 rfl) ?_
  refine fo_sld (fa_329 rfl) ?_
  refine fo_iload (k := 5) (fa_329 rfl) ?_
  refine fo_iconst (fa_329 rfl) fk_c_3 ?_
  refine fo_iadd (fa_329 rfl) ?_
  refine fo_sia (fa_329 rfl) ?_
  refine fo_virtual (by decide) fna_207 (fo_call (fa_329 rfl) fNs_virtual fsm_207 (by decide) fFil_1 fna_207 fx_207 (by rw [fP_207]; rfl) fh_329 ?_)
  refine fo_istore (k := 7) (fa_329 rfl) ?_
  refine fo_aload_n (k := 2) (fa_329 rfl) ?_
  refine fo_virtual (by decide) fna_170 (fo_call (fa_329 rfl) fNs_virtual fsm_170 (by decide) fFil_0 fna_170 fx_170 (by rw [fP_170]; rfl) fh_329 ?_)
  refine fo_iload (k := 6) (fa_329 rfl) ?_
  refine fo_icmp_eq (fa_329 rfl) (pcT := 1236) rfl fs_329_1236 ?_
  refine fo_iconst (fa_329 rfl) fk_c_0 ?_
  exact fo_iret (fa_329 rfl) fr_329 fw_bool
theorem fs_329_1173 : fSB 329 [0, 28] 7 1173 f_329_1173 := by
  unfold f_329_1173
  exact fo_goto (fa_329 rfl) (pcT := 4039) rfl fs_329_4039
theorem fs_329_1156 : fSB 329 [0, 28] 7 1156 f_329_1156 := by
  unfold f_329_1156
  refine fo_iload (k := 6) (fa_329 rfl) ?_
  refine fo_if_ne (fa_329 rfl) (pcT := 1173) rfl fs_329_1173 ?_
  refine fo_aload_n (k := 3) (fa_329 rfl) ?_
  refine fo_iconst (fa_329 rfl) fk_c_0 ?_
  refine fo_laload (fa_329 rfl) ?_
  refine fo_iload (k := 7) (fa_329 rfl) ?_
  refine fo_i2l (fa_329 rfl) ?_
  refine fo_lcmp (fa_329 rfl) ?_
  refine fo_if_eq (fa_329 rfl) (pcT := 1173) rfl fs_329_1173 ?_
  refine fo_iconst (fa_329 rfl) fk_c_0 ?_
  exact fo_iret (fa_329 rfl) fr_329 fw_bool
theorem fs_329_1096 : fSB 329 [0, 28] 7 1096 f_329_1096 := by
  unfold f_329_1096
  refine fo_aload_n (k := 1) (fa_329 rfl) ?_
  refine fo_sld (fa_329 rfl) ?_
  refine fo_iload (k := 5) (fa_329 rfl) ?_
  refine fo_iconst (fa_329 rfl) fk_c_1 ?_
  refine fo_iadd (fa_329 rfl) ?_
  refine fo_sia (fa_329 rfl) ?_
  refine fo_sld (fa_329 rfl) ?_
  refine fo_iload (k := 5) (fa_329 rfl) ?_
  refine fo_iconst (fa_329 rfl) fk_c_2 ?_
  refine fo_iadd (fa_329 rfl) ?_
  refine fo_sia (fa_329 rfl) ?_
  refine fo_sld (fa_329 rfl) ?_
  refine fo_iload (k := 5) (fa_329 rfl) ?_
  refine fo_iconst (fa_329 rfl) fk_c_3 ?_
  refine fo_iadd (fa_329 rfl) ?_
  refine fo_sia (fa_329 rfl) ?_
  refine fo_aload_n (k := 3) (fa_329 rfl) ?_
  refine fo_static (by decide) (fo_callH (fa_329 rfl) fNs_static fsm_289 (by decide) fFil_1 fna_289 fx_289 (Or.inl rfl) fHd_nil ?_)
  refine fo_istore (k := 6) (fa_329 rfl) ?_
  refine fo_aload_n (k := 2) (fa_329 rfl) ?_
  refine fo_sld (fa_329 rfl) ?_
  refine fo_iload (k := 5) (fa_329 rfl) ?_
  refine fo_iconst (fa_329 rfl) fk_c_1 ?_
  refine fo_iadd (fa_329 rfl) ?_
  refine fo_sia (fa_329 rfl) ?_
  refine fo_sld (fa_329 rfl) ?_
  refine fo_iload (k := 5) (fa_329 rfl) ?_
  refine fo_iconst (fa_329 rfl) fk_c_2 ?_
  refine fo_iadd (fa_329 rfl) ?_
  refine fo_sia (fa_329 rfl) ?_
  refine fo_sld (fa_329 rfl) ?_
  refine fo_iload (k := 5) (fa_329 rfl) ?_
  refine fo_iconst (fa_329 rfl) fk_c_3 ?_
  refine fo_iadd (fa_329 rfl) ?_
  refine fo_sia (fa_329 rfl) ?_
  refine fo_virtual (by decide) fna_206 (fo_call (fa_329 rfl) fNs_virtual fsm_206 (by decide) fFil_0 fna_206 fx_206 (by rw [fP_206]; rfl) fh_329 ?_)
  refine fo_istore (k := 7) (fa_329 rfl) ?_
  refine fo_aload_n (k := 2) (fa_329 rfl) ?_
  refine fo_virtual (by decide) fna_170 (fo_call (fa_329 rfl) fNs_virtual fsm_170 (by decide) fFil_0 fna_170 fx_170 (by rw [fP_170]; rfl) fh_329 ?_)
  refine fo_iload (k := 6) (fa_329 rfl) ?_
  refine fo_icmp_eq (fa_329 rfl) (pcT := 1156) rfl fs_329_1156 ?_
  refine fo_iconst (fa_329 rfl) fk_c_0 ?_
  exact fo_iret (fa_329 rfl) fr_329 fw_bool
theorem fs_329_1093 : fSB 329 [0, 28] 7 1093 f_329_1093 := by
  unfold f_329_1093
  exact fo_goto (fa_329 rfl) (pcT := 4039) rfl fs_329_4039
theorem fs_329_1076 : fSB 329 [0, 28] 7 1076 f_329_1076 := by
  unfold f_329_1076
  refine fo_iload (k := 6) (fa_329 rfl) ?_
  refine fo_if_ne (fa_329 rfl) (pcT := 1093) rfl fs_329_1093 ?_
  refine fo_aload_n (k := 3) (fa_329 rfl) ?_
  refine fo_iconst (fa_329 rfl) fk_c_0 ?_
  refine fo_laload (fa_329 rfl) ?_
  refine fo_iload (k := 7) (fa_329 rfl) ?_
  refine fo_i2l (fa_329 rfl) ?_
  refine fo_lcmp (fa_329 rfl) ?_
  refine fo_if_eq (fa_329 rfl) (pcT := 1093) rfl fs_329_1093 ?_
  refine fo_iconst (fa_329 rfl) fk_c_0 ?_
  exact fo_iret (fa_329 rfl) fr_329 fw_bool
theorem fs_329_1028 : fSB 329 [0, 28] 7 1028 f_329_1028 := by
  unfold f_329_1028
  refine fo_aload_n (k := 1) (fa_329 rfl) ?_
  refine fo_sld (fa_329 rfl) ?_
  refine fo_iload (k := 5) (fa_329 rfl) ?_
  refine fo_iconst (fa_329 rfl) fk_c_1 ?_
  refine fo_iadd (fa_329 rfl) ?_
  refine fo_sia (fa_329 rfl) ?_
  refine fo_sld (fa_329 rfl) ?_
  refine fo_iload (k := 5) (fa_329 rfl) ?_
  refine fo_iconst (fa_329 rfl) fk_c_2 ?_
  refine fo_iadd (fa_329 rfl) ?_
  refine fo_sia (fa_329 rfl) ?_
  refine fo_aload_n (k := 3) (fa_329 rfl) ?_
  refine fo_static (by decide) (fo_callH (fa_329 rfl) fNs_static fsm_288 (by decide) fFil_1 fna_288 fx_288 (Or.inl rfl) fHd_nil ?_)
  refine fo_istore (k := 6) (fa_329 rfl) ?_
  refine fo_aload_n (k := 2) (fa_329 rfl) ?_
  refine fo_sld (fa_329 rfl) ?_
  refine fo_iload (k := 5) (fa_329 rfl) ?_
  refine fo_iconst (fa_329 rfl) fk_c_1 ?_
  refine fo_iadd (fa_329 rfl) ?_
  refine fo_sia (fa_329 rfl) ?_
  refine fo_sld (fa_329 rfl) ?_
  refine fo_iload (k := 5) (fa_329 rfl) ?_
  refine fo_iconst (fa_329 rfl) fk_c_2 ?_
  refine fo_iadd (fa_329 rfl) ?_
  refine fo_sia (fa_329 rfl) ?_
  refine fo_virtual (by decide) fna_205 (fo_call (fa_329 rfl) fNs_virtual fsm_205 (by decide) fFil_0 fna_205 fx_205 (by rw [fP_205]; rfl) fh_329 ?_)
  refine fo_istore (k := 7) (fa_329 rfl) ?_
  refine fo_aload_n (k := 2) (fa_329 rfl) ?_
  refine fo_virtual (by decide) fna_170 (fo_call (fa_329 rfl) fNs_virtual fsm_170 (by decide) fFil_0 fna_170 fx_170 (by rw [fP_170]; rfl) fh_329 ?_)
  refine fo_iload (k := 6) (fa_329 rfl) ?_
  refine fo_icmp_eq (fa_329 rfl) (pcT := 1076) rfl fs_329_1076 ?_
  refine fo_iconst (fa_329 rfl) fk_c_0 ?_
  exact fo_iret (fa_329 rfl) fr_329 fw_bool
theorem fs_329_1025 : fSB 329 [0, 28] 7 1025 f_329_1025 := by
  unfold f_329_1025
  exact fo_goto (fa_329 rfl) (pcT := 4039) rfl fs_329_4039
theorem fs_329_1008 : fSB 329 [0, 28] 7 1008 f_329_1008 := by
  unfold f_329_1008
  refine fo_iload (k := 6) (fa_329 rfl) ?_
  refine fo_if_ne (fa_329 rfl) (pcT := 1025) rfl fs_329_1025 ?_
  refine fo_aload_n (k := 3) (fa_329 rfl) ?_
  refine fo_iconst (fa_329 rfl) fk_c_0 ?_
  refine fo_laload (fa_329 rfl) ?_
  refine fo_iload (k := 7) (fa_329 rfl) ?_
  refine fo_i2l (fa_329 rfl) ?_
  refine fo_lcmp (fa_329 rfl) ?_
  refine fo_if_eq (fa_329 rfl) (pcT := 1025) rfl fs_329_1025 ?_
  refine fo_iconst (fa_329 rfl) fk_c_0 ?_
  exact fo_iret (fa_329 rfl) fr_329 fw_bool
theorem fs_329_960 : fSB 329 [0, 28] 7 960 f_329_960 := by
  unfold f_329_960
  refine fo_aload_n (k := 1) (fa_329 rfl) ?_
  refine fo_sld (fa_329 rfl) ?_
  refine fo_iload (k := 5) (fa_329 rfl) ?_
  refine fo_iconst (fa_329 rfl) fk_c_1 ?_
  refine fo_iadd (fa_329 rfl) ?_
  refine fo_sia (fa_329 rfl) ?_
  refine fo_sld (fa_329 rfl) ?_
  refine fo_iload (k := 5) (fa_329 rfl) ?_
  refine fo_iconst (fa_329 rfl) fk_c_2 ?_
  refine fo_iadd (fa_329 rfl) ?_
  refine fo_sia (fa_329 rfl) ?_
  refine fo_aload_n (k := 3) (fa_329 rfl) ?_
  refine fo_static (by decide) (fo_callH (fa_329 rfl) fNs_static fsm_287 (by decide) fFil_1 fna_287 fx_287 (Or.inl rfl) fHd_nil ?_)
  refine fo_istore (k := 6) (fa_329 rfl) ?_
  refine fo_aload_n (k := 2) (fa_329 rfl) ?_
  refine fo_sld (fa_329 rfl) ?_
  refine fo_iload (k := 5) (fa_329 rfl) ?_
  refine fo_iconst (fa_329 rfl) fk_c_1 ?_
  refine fo_iadd (fa_329 rfl) ?_
  refine fo_sia (fa_329 rfl) ?_
  refine fo_sld (fa_329 rfl) ?_
  refine fo_iload (k := 5) (fa_329 rfl) ?_
  refine fo_iconst (fa_329 rfl) fk_c_2 ?_
  refine fo_iadd (fa_329 rfl) ?_
  refine fo_sia (fa_329 rfl) ?_
  refine fo_virtual (by decide) fna_203 (fo_call (fa_329 rfl) fNs_virtual fsm_203 (by decide) fFil_0 fna_203 fx_203 (by rw [fP_203]; rfl) fh_329 ?_)
  refine fo_istore (k := 7) (fa_329 rfl) ?_
  refine fo_aload_n (k := 2) (fa_329 rfl) ?_
  refine fo_virtual (by decide) fna_170 (fo_call (fa_329 rfl) fNs_virtual fsm_170 (by decide) fFil_0 fna_170 fx_170 (by rw [fP_170]; rfl) fh_329 ?_)
  refine fo_iload (k := 6) (fa_329 rfl) ?_
  refine fo_icmp_eq (fa_329 rfl) (pcT := 1008) rfl fs_329_1008 ?_
  refine fo_iconst (fa_329 rfl) fk_c_0 ?_
  exact fo_iret (fa_329 rfl) fr_329 fw_bool
theorem fs_329_957 : fSB 329 [0, 28] 7 957 f_329_957 := by
  unfold f_329_957
  exact fo_goto (fa_329 rfl) (pcT := 4039) rfl fs_329_4039
theorem fs_329_940 : fSB 329 [0, 28] 7 940 f_329_940 := by
  unfold f_329_940
  refine fo_iload (k := 6) (fa_329 rfl) ?_
  refine fo_if_ne (fa_329 rfl) (pcT := 957) rfl fs_329_957 ?_
  refine fo_aload_n (k := 3) (fa_329 rfl) ?_
  refine fo_iconst (fa_329 rfl) fk_c_0 ?_
  refine fo_laload (fa_329 rfl) ?_
  refine fo_iload (k := 7) (fa_329 rfl) ?_
  refine fo_i2l (fa_329 rfl) ?_
  refine fo_lcmp (fa_329 rfl) ?_
  refine fo_if_eq (fa_329 rfl) (pcT := 957) rfl fs_329_957 ?_
  refine fo_iconst (fa_329 rfl) fk_c_0 ?_
  exact fo_iret (fa_329 rfl) fr_329 fw_bool
theorem fs_329_904 : fSB 329 [0, 28] 7 904 f_329_904 := by
  unfold f_329_904
  refine fo_aload_n (k := 1) (fa_329 rfl) ?_
  refine fo_sld (fa_329 rfl) ?_
  refine fo_iload (k := 5) (fa_329 rfl) ?_
  refine fo_iconst (fa_329 rfl) fk_c_1 ?_
  refine fo_iadd (fa_329 rfl) ?_
  refine fo_sia (fa_329 rfl) ?_
  refine fo_aload_n (k := 3) (fa_329 rfl) ?_
  refine fo_static (by decide) (fo_callH (fa_329 rfl) fNs_static fsm_286 (by decide) fFil_1 fna_286 fx_286 (Or.inl rfl) fHd_nil ?_)
  refine fo_istore (k := 6) (fa_329 rfl) ?_
  refine fo_aload_n (k := 2) (fa_329 rfl) ?_
  refine fo_sld (fa_329 rfl) ?_
  refine fo_iload (k := 5) (fa_329 rfl) ?_
  refine fo_iconst (fa_329 rfl) fk_c_1 ?_
  refine fo_iadd (fa_329 rfl) ?_
  refine fo_sia (fa_329 rfl) ?_
  refine fo_virtual (by decide) fna_200 (fo_call (fa_329 rfl) fNs_virtual fsm_200 (by decide) fFil_0 fna_200 fx_200 (by rw [fP_200]; rfl) fh_329 ?_)
  refine fo_istore (k := 7) (fa_329 rfl) ?_
  refine fo_aload_n (k := 2) (fa_329 rfl) ?_
  refine fo_virtual (by decide) fna_170 (fo_call (fa_329 rfl) fNs_virtual fsm_170 (by decide) fFil_0 fna_170 fx_170 (by rw [fP_170]; rfl) fh_329 ?_)
  refine fo_iload (k := 6) (fa_329 rfl) ?_
  refine fo_icmp_eq (fa_329 rfl) (pcT := 940) rfl fs_329_940 ?_
  refine fo_iconst (fa_329 rfl) fk_c_0 ?_
  exact fo_iret (fa_329 rfl) fr_329 fw_bool
theorem fs_329_901 : fSB 329 [0, 28] 7 901 f_329_901 := by
  unfold f_329_901
  exact fo_goto (fa_329 rfl) (pcT := 4039) rfl fs_329_4039
theorem fs_329_884 : fSB 329 [0, 28] 7 884 f_329_884 := by
  unfold f_329_884
  refine fo_iload (k := 6) (fa_329 rfl) ?_
  refine fo_if_ne (fa_329 rfl) (pcT := 901) rfl fs_329_901 ?_
  refine fo_aload_n (k := 3) (fa_329 rfl) ?_
  refine fo_iconst (fa_329 rfl) fk_c_0 ?_
  refine fo_laload (fa_329 rfl) ?_
  refine fo_iload (k := 7) (fa_329 rfl) ?_
  refine fo_i2l (fa_329 rfl) ?_
  refine fo_lcmp (fa_329 rfl) ?_
  refine fo_if_eq (fa_329 rfl) (pcT := 901) rfl fs_329_901 ?_
  refine fo_iconst (fa_329 rfl) fk_c_0 ?_
  exact fo_iret (fa_329 rfl) fr_329 fw_bool
theorem fs_329_848 : fSB 329 [0, 28] 7 848 f_329_848 := by
  unfold f_329_848
  refine fo_aload_n (k := 1) (fa_329 rfl) ?_
  refine fo_sld (fa_329 rfl) ?_
  refine fo_iload (k := 5) (fa_329 rfl) ?_
  refine fo_iconst (fa_329 rfl) fk_c_1 ?_
  refine fo_iadd (fa_329 rfl) ?_
  refine fo_sia (fa_329 rfl) ?_
  refine fo_aload_n (k := 3) (fa_329 rfl) ?_
  refine fo_static (by decide) (fo_callH (fa_329 rfl) fNs_static fsm_285 (by decide) fFil_1 fna_285 fx_285 (Or.inl rfl) fHd_nil ?_)
  refine fo_istore (k := 6) (fa_329 rfl) ?_
  refine fo_aload_n (k := 2) (fa_329 rfl) ?_
  refine fo_sld (fa_329 rfl) ?_
  refine fo_iload (k := 5) (fa_329 rfl) ?_
  refine fo_iconst (fa_329 rfl) fk_c_1 ?_
  refine fo_iadd (fa_329 rfl) ?_
  refine fo_sia (fa_329 rfl) ?_
  refine fo_virtual (by decide) fna_199 (fo_call (fa_329 rfl) fNs_virtual fsm_199 (by decide) fFil_0 fna_199 fx_199 (by rw [fP_199]; rfl) fh_329 ?_)
  refine fo_istore (k := 7) (fa_329 rfl) ?_
  refine fo_aload_n (k := 2) (fa_329 rfl) ?_
  refine fo_virtual (by decide) fna_170 (fo_call (fa_329 rfl) fNs_virtual fsm_170 (by decide) fFil_0 fna_170 fx_170 (by rw [fP_170]; rfl) fh_329 ?_)
  refine fo_iload (k := 6) (fa_329 rfl) ?_
  refine fo_icmp_eq (fa_329 rfl) (pcT := 884) rfl fs_329_884 ?_
  refine fo_iconst (fa_329 rfl) fk_c_0 ?_
  exact fo_iret (fa_329 rfl) fr_329 fw_bool
theorem fs_329_845 : fSB 329 [0, 28] 7 845 f_329_845 := by
  unfold f_329_845
  exact fo_goto (fa_329 rfl) (pcT := 4039) rfl fs_329_4039
theorem fs_329_828 : fSB 329 [0, 28] 7 828 f_329_828 := by
  unfold f_329_828
  refine fo_iload (k := 6) (fa_329 rfl) ?_
  refine fo_if_ne (fa_329 rfl) (pcT := 845) rfl fs_329_845 ?_
  refine fo_aload_n (k := 3) (fa_329 rfl) ?_
  refine fo_iconst (fa_329 rfl) fk_c_0 ?_
  refine fo_laload (fa_329 rfl) ?_
  refine fo_iload (k := 7) (fa_329 rfl) ?_
  refine fo_i2l (fa_329 rfl) ?_
  refine fo_lcmp (fa_329 rfl) ?_
  refine fo_if_eq (fa_329 rfl) (pcT := 845) rfl fs_329_845 ?_
  refine fo_iconst (fa_329 rfl) fk_c_0 ?_
  exact fo_iret (fa_329 rfl) fr_329 fw_bool
theorem fs_329_768 : fSB 329 [0, 28] 7 768 f_329_768 := by
  unfold f_329_768
  refine fo_aload_n (k := 1) (fa_329 rfl) ?_
  refine fo_sld (fa_329 rfl) ?_
  refine fo_iload (k := 5) (fa_329 rfl) ?_
  refine fo_iconst (fa_329 rfl) fk_c_1 ?_
  refine fo_iadd (fa_329 rfl) ?_
  refine fo_sia (fa_329 rfl) ?_
  refine fo_sld (fa_329 rfl) ?_
  refine fo_iload (k := 5) (fa_329 rfl) ?_
  refine fo_iconst (fa_329 rfl) fk_c_2 ?_
  refine fo_iadd (fa_329 rfl) ?_
  refine fo_sia (fa_329 rfl) ?_
  refine fo_sld (fa_329 rfl) ?_
  refine fo_iload (k := 5) (fa_329 rfl) ?_
  refine fo_iconst (fa_329 rfl) fk_c_3 ?_
  refine fo_iadd (fa_329 rfl) ?_
  refine fo_sia (fa_329 rfl) ?_
  refine fo_aload_n (k := 3) (fa_329 rfl) ?_
  refine fo_static (by decide) (fo_callH (fa_329 rfl) fNs_static fsm_284 (by decide) fFil_1 fna_284 fx_284 (Or.inl rfl) fHd_nil ?_)
  refine fo_istore (k := 6) (fa_329 rfl) ?_
  refine fo_aload_n (k := 2) (fa_329 rfl) ?_
  refine fo_sld (fa_329 rfl) ?_
  refine fo_iload (k := 5) (fa_329 rfl) ?_
  refine fo_iconst (fa_329 rfl) fk_c_1 ?_
  refine fo_iadd (fa_329 rfl) ?_
  refine fo_sia (fa_329 rfl) ?_
  refine fo_sld (fa_329 rfl) ?_
  refine fo_iload (k := 5) (fa_329 rfl) ?_
  refine fo_iconst (fa_329 rfl) fk_c_2 ?_
  refine fo_iadd (fa_329 rfl) ?_
  refine fo_sia (fa_329 rfl) ?_
  refine fo_sld (fa_329 rfl) ?_
  refine fo_iload (k := 5) (fa_329 rfl) ?_
  refine fo_iconst (fa_329 rfl) fk_c_3 ?_
  refine fo_iadd (fa_329 rfl) ?_
  refine fo_sia (fa_329 rfl) ?_
  refine fo_virtual (by decide) fna_198 (fo_call (fa_329 rfl) fNs_virtual fsm_198 (by decide) fFil_16 fna_198 fx_198 (by rw [fP_198]; rfl) fh_329 ?_)
  refine fo_istore (k := 7) (fa_329 rfl) ?_
  refine fo_aload_n (k := 2) (fa_329 rfl) ?_
  refine fo_virtual (by decide) fna_170 (fo_call (fa_329 rfl) fNs_virtual fsm_170 (by decide) fFil_0 fna_170 fx_170 (by rw [fP_170]; rfl) fh_329 ?_)
  refine fo_iload (k := 6) (fa_329 rfl) ?_
  refine fo_icmp_eq (fa_329 rfl) (pcT := 828) rfl fs_329_828 ?_
  refine fo_iconst (fa_329 rfl) fk_c_0 ?_
  exact fo_iret (fa_329 rfl) fr_329 fw_bool
theorem fs_329_765 : fSB 329 [0, 28] 7 765 f_329_765 := by
  unfold f_329_765
  exact fo_goto (fa_329 rfl) (pcT := 4039) rfl fs_329_4039
theorem fs_329_748 : fSB 329 [0, 28] 7 748 f_329_748 := by
  unfold f_329_748
  refine fo_iload (k := 6) (fa_329 rfl) ?_
  refine fo_if_ne (fa_329 rfl) (pcT := 765) rfl fs_329_765 ?_
  refine fo_aload_n (k := 3) (fa_329 rfl) ?_
  refine fo_iconst (fa_329 rfl) fk_c_0 ?_
  refine fo_laload (fa_329 rfl) ?_
  refine fo_iload (k := 7) (fa_329 rfl) ?_
  refine fo_i2l (fa_329 rfl) ?_
  refine fo_lcmp (fa_329 rfl) ?_
  refine fo_if_eq (fa_329 rfl) (pcT := 765) rfl fs_329_765 ?_
  refine fo_iconst (fa_329 rfl) fk_c_0 ?_
  exact fo_iret (fa_329 rfl) fr_329 fw_bool
theorem fs_329_700 : fSB 329 [0, 28] 7 700 f_329_700 := by
  unfold f_329_700
  refine fo_aload_n (k := 1) (fa_329 rfl) ?_
  refine fo_sld (fa_329 rfl) ?_
  refine fo_iload (k := 5) (fa_329 rfl) ?_
  refine fo_iconst (fa_329 rfl) fk_c_1 ?_
  refine fo_iadd (fa_329 rfl) ?_
  refine fo_sia (fa_329 rfl) ?_
  refine fo_sld (fa_329 rfl) ?_
  refine fo_iload (k := 5) (fa_329 rfl) ?_
  refine fo_iconst (fa_329 rfl) fk_c_2 ?_
  refine fo_iadd (fa_329 rfl) ?_
  refine fo_sia (fa_329 rfl) ?_
  refine fo_aload_n (k := 3) (fa_329 rfl) ?_
  refine fo_static (by decide) (fo_callH (fa_329 rfl) fNs_static fsm_283 (by decide) fFil_1 fna_283 fx_283 (Or.inl rfl) fHd_nil ?_)
  refine fo_istore (k := 6) (fa_329 rfl) ?_
  refine fo_aload_n (k := 2) (fa_329 rfl) ?_
  refine fo_sld (fa_329 rfl) ?_
  refine fo_iload (k := 5) (fa_329 rfl) ?_
  refine fo_iconst (fa_329 rfl) fk_c_1 ?_
  refine fo_iadd (fa_329 rfl) ?_
  refine fo_sia (fa_329 rfl) ?_
  refine fo_sld (fa_329 rfl) ?_
  refine fo_iload (k := 5) (fa_329 rfl) ?_
  refine fo_iconst (fa_329 rfl) fk_c_2 ?_
  refine fo_iadd (fa_329 rfl) ?_
  refine fo_sia (fa_329 rfl) ?_
  refine fo_virtual (by decide) fna_195 (fo_call (fa_329 rfl) fNs_virtual fsm_195 (by decide) fFil_8 fna_195 fx_195 (by rw [fP_195]; rfl) fh_329 ?_)
  refine fo_istore (k := 7) (fa_329 rfl) ?_
  refine fo_aload_n (k := 2) (fa_329 rfl) ?_
  refine fo_virtual (by decide) fna_170 (fo_call (fa_329 rfl) fNs_virtual fsm_170 (by decide) fFil_0 fna_170 fx_170 (by rw [fP_170]; rfl) fh_329 ?_)
  refine fo_iload (k := 6) (fa_329 rfl) ?_
  refine fo_icmp_eq (fa_329 rfl) (pcT := 748) rfl fs_329_748 ?_
  refine fo_iconst (fa_329 rfl) fk_c_0 ?_
  exact fo_iret (fa_329 rfl) fr_329 fw_bool
theorem fs_329_697 : fSB 329 [0, 28] 7 697 f_329_697 := by
  unfold f_329_697
  exact fo_goto (fa_329 rfl) (pcT := 4039) rfl fs_329_4039
theorem fs_329_680 : fSB 329 [0, 28] 7 680 f_329_680 := by
  unfold f_329_680
  refine fo_iload (k := 6) (fa_329 rfl) ?_
  refine fo_if_ne (fa_329 rfl) (pcT := 697) rfl fs_329_697 ?_
  refine fo_aload_n (k := 3) (fa_329 rfl) ?_
  refine fo_iconst (fa_329 rfl) fk_c_0 ?_
  refine fo_laload (fa_329 rfl) ?_
  refine fo_iload (k := 7) (fa_329 rfl) ?_
  refine fo_i2l (fa_329 rfl) ?_
  refine fo_lcmp (fa_329 rfl) ?_
  refine fo_if_eq (fa_329 rfl) (pcT := 697) rfl fs_329_697 ?_
  refine fo_iconst (fa_329 rfl) fk_c_0 ?_
  exact fo_iret (fa_329 rfl) fr_329 fw_bool
theorem fs_329_632 : fSB 329 [0, 28] 7 632 f_329_632 := by
  unfold f_329_632
  refine fo_aload_n (k := 1) (fa_329 rfl) ?_
  refine fo_sld (fa_329 rfl) ?_
  refine fo_iload (k := 5) (fa_329 rfl) ?_
  refine fo_iconst (fa_329 rfl) fk_c_1 ?_
  refine fo_iadd (fa_329 rfl) ?_
  refine fo_sia (fa_329 rfl) ?_
  refine fo_sld (fa_329 rfl) ?_
  refine fo_iload (k := 5) (fa_329 rfl) ?_
  refine fo_iconst (fa_329 rfl) fk_c_2 ?_
  refine fo_iadd (fa_329 rfl) ?_
  refine fo_sia (fa_329 rfl) ?_
  refine fo_aload_n (k := 3) (fa_329 rfl) ?_
  refine fo_static (by decide) (fo_callH (fa_329 rfl) fNs_static fsm_282 (by decide) fFil_1 fna_282 fx_282 (Or.inl rfl) fHd_nil ?_)
  refine fo_istore (k := 6) (fa_329 rfl) ?_
  refine fo_aload_n (k := 2) (fa_329 rfl) ?_
  refine fo_sld (fa_329 rfl) ?_
  refine fo_iload (k := 5) (fa_329 rfl) ?_
  refine fo_iconst (fa_329 rfl) fk_c_1 ?_
  refine fo_iadd (fa_329 rfl) ?_
  refine fo_sia (fa_329 rfl) ?_
  refine fo_sld (fa_329 rfl) ?_
  refine fo_iload (k := 5) (fa_329 rfl) ?_
  refine fo_iconst (fa_329 rfl) fk_c_2 ?_
  refine fo_iadd (fa_329 rfl) ?_
  refine fo_sia (fa_329 rfl) ?_
  refine fo_virtual (by decide) fna_194 (fo_call (fa_329 rfl) fNs_virtual fsm_194 (by decide) fFil_6 fna_194 fx_194 (by rw [fP_194]; rfl) fh_329 ?_)
  refine fo_istore (k := 7) (fa_329 rfl) ?_
  refine fo_aload_n (k := 2) (fa_329 rfl) ?_
  refine fo_virtual (by decide) fna_170 (fo_call (fa_329 rfl) fNs_virtual fsm_170 (by decide) fFil_0 fna_170 fx_170 (by rw [fP_170]; rfl) fh_329 ?_)
  refine fo_iload (k := 6) (fa_329 rfl) ?_
  refine fo_icmp_eq (fa_329 rfl) (pcT := 680) rfl fs_329_680 ?_
  refine fo_iconst (fa_329 rfl) fk_c_0 ?_
  exact fo_iret (fa_329 rfl) fr_329 fw_bool
theorem fs_329_629 : fSB 329 [0, 28] 7 629 f_329_629 := by
  unfold f_329_629
  exact fo_goto (fa_329 rfl) (pcT := 4039) rfl fs_329_4039
theorem fs_329_612 : fSB 329 [0, 28] 7 612 f_329_612 := by
  unfold f_329_612
  refine fo_iload (k := 6) (fa_329 rfl) ?_
  refine fo_if_ne (fa_329 rfl) (pcT := 629) rfl fs_329_629 ?_
  refine fo_aload_n (k := 3) (fa_329 rfl) ?_
  refine fo_iconst (fa_329 rfl) fk_c_0 ?_
  refine fo_laload (fa_329 rfl) ?_
  refine fo_iload (k := 7) (fa_329 rfl) ?_
  refine fo_i2l (fa_329 rfl) ?_
  refine fo_lcmp (fa_329 rfl) ?_
  refine fo_if_eq (fa_329 rfl) (pcT := 629) rfl fs_329_629 ?_
  refine fo_iconst (fa_329 rfl) fk_c_0 ?_
  exact fo_iret (fa_329 rfl) fr_329 fw_bool
theorem fs_329_564 : fSB 329 [0, 28] 7 564 f_329_564 := by
  unfold f_329_564
  refine fo_aload_n (k := 1) (fa_329 rfl) ?_
  refine fo_sld (fa_329 rfl) ?_
  refine fo_iload (k := 5) (fa_329 rfl) ?_
  refine fo_iconst (fa_329 rfl) fk_c_1 ?_
  refine fo_iadd (fa_329 rfl) ?_
  refine fo_sia (fa_329 rfl) ?_
  refine fo_sld (fa_329 rfl) ?_
  refine fo_iload (k := 5) (fa_329 rfl) ?_
  refine fo_iconst (fa_329 rfl) fk_c_2 ?_
  refine fo_iadd (fa_329 rfl) ?_
  refine fo_sia (fa_329 rfl) ?_
  refine fo_aload_n (k := 3) (fa_329 rfl) ?_
  refine fo_static (by decide) (fo_callH (fa_329 rfl) fNs_static fsm_281 (by decide) fFil_1 fna_281 fx_281 (Or.inl rfl) fHd_nil ?_)
  refine fo_istore (k := 6) (fa_329 rfl) ?_
  refine fo_aload_n (k := 2) (fa_329 rfl) ?_
  refine fo_sld (fa_329 rfl) ?_
  refine fo_iload (k := 5) (fa_329 rfl) ?_
  refine fo_iconst (fa_329 rfl) fk_c_1 ?_
  refine fo_iadd (fa_329 rfl) ?_
  refine fo_sia (fa_329 rfl) ?_
  refine fo_sld (fa_329 rfl) ?_
  refine fo_iload (k := 5) (fa_329 rfl) ?_
  refine fo_iconst (fa_329 rfl) fk_c_2 ?_
  refine fo_iadd (fa_329 rfl) ?_
  refine fo_sia (fa_329 rfl) ?_
  refine fo_virtual (by decide) fna_193 (fo_call (fa_329 rfl) fNs_virtual fsm_193 (by decide) fFil_0 fna_193 fx_193 (by rw [fP_193]; rfl) fh_329 ?_)
  refine fo_istore (k := 7) (fa_329 rfl) ?_
  refine fo_aload_n (k := 2) (fa_329 rfl) ?_
  refine fo_virtual (by decide) fna_170 (fo_call (fa_329 rfl) fNs_virtual fsm_170 (by decide) fFil_0 fna_170 fx_170 (by rw [fP_170]; rfl) fh_329 ?_)
  refine fo_iload (k := 6) (fa_329 rfl) ?_
  refine fo_icmp_eq (fa_329 rfl) (pcT := 612) rfl fs_329_612 ?_
  refine fo_iconst (fa_329 rfl) fk_c_0 ?_
  exact fo_iret (fa_329 rfl) fr_329 fw_bool
theorem fs_329_561 : fSB 329 [0, 28] 7 561 f_329_561 := by
  unfold f_329_561
  exact fo_goto (fa_329 rfl) (pcT := 4039) rfl fs_329_4039
theorem fs_329_544 : fSB 329 [0, 28] 7 544 f_329_544 := by
  unfold f_329_544
  refine fo_iload (k := 6) (fa_329 rfl) ?_
  refine fo_if_ne (fa_329 rfl) (pcT := 561) rfl fs_329_561 ?_
  refine fo_aload_n (k := 3) (fa_329 rfl) ?_
  refine fo_iconst (fa_329 rfl) fk_c_0 ?_
  refine fo_laload (fa_329 rfl) ?_
  refine fo_iload (k := 7) (fa_329 rfl) ?_
  refine fo_i2l (fa_329 rfl) ?_
  refine fo_lcmp (fa_329 rfl) ?_
  refine fo_if_eq (fa_329 rfl) (pcT := 561) rfl fs_329_561 ?_
  refine fo_iconst (fa_329 rfl) fk_c_0 ?_
  exact fo_iret (fa_329 rfl) fr_329 fw_bool
theorem fs_329_496 : fSB 329 [0, 28] 7 496 f_329_496 := by
  unfold f_329_496
  refine fo_aload_n (k := 1) (fa_329 rfl) ?_
  refine fo_sld (fa_329 rfl) ?_
  refine fo_iload (k := 5) (fa_329 rfl) ?_
  refine fo_iconst (fa_329 rfl) fk_c_1 ?_
  refine fo_iadd (fa_329 rfl) ?_
  refine fo_sia (fa_329 rfl) ?_
  refine fo_sld (fa_329 rfl) ?_
  refine fo_iload (k := 5) (fa_329 rfl) ?_
  refine fo_iconst (fa_329 rfl) fk_c_2 ?_
  refine fo_iadd (fa_329 rfl) ?_
  refine fo_sia (fa_329 rfl) ?_
  refine fo_aload_n (k := 3) (fa_329 rfl) ?_
  refine fo_static (by decide) (fo_callH (fa_329 rfl) fNs_static fsm_280 (by decide) fFil_1 fna_280 fx_280 (Or.inl rfl) fHd_nil ?_)
  refine fo_istore (k := 6) (fa_329 rfl) ?_
  refine fo_aload_n (k := 2) (fa_329 rfl) ?_
  refine fo_sld (fa_329 rfl) ?_
  refine fo_iload (k := 5) (fa_329 rfl) ?_
  refine fo_iconst (fa_329 rfl) fk_c_1 ?_
  refine fo_iadd (fa_329 rfl) ?_
  refine fo_sia (fa_329 rfl) ?_
  refine fo_sld (fa_329 rfl) ?_
  refine fo_iload (k := 5) (fa_329 rfl) ?_
  refine fo_iconst (fa_329 rfl) fk_c_2 ?_
  refine fo_iadd (fa_329 rfl) ?_
  refine fo_sia (fa_329 rfl) ?_
  refine fo_virtual (by decide) fna_192 (fo_call (fa_329 rfl) fNs_virtual fsm_192 (by decide) fFil_0 fna_192 fx_192 (by rw [fP_192]; rfl) fh_329 ?_)
  refine fo_istore (k := 7) (fa_329 rfl) ?_
  refine fo_aload_n (k := 2) (fa_329 rfl) ?_
  refine fo_virtual (by decide) fna_170 (fo_call (fa_329 rfl) fNs_virtual fsm_170 (by decide) fFil_0 fna_170 fx_170 (by rw [fP_170]; rfl) fh_329 ?_)
  refine fo_iload (k := 6) (fa_329 rfl) ?_
  refine fo_icmp_eq (fa_329 rfl) (pcT := 544) rfl fs_329_544 ?_
  refine fo_iconst (fa_329 rfl) fk_c_0 ?_
  exact fo_iret (fa_329 rfl) fr_329 fw_bool
theorem fs_329_493 : fSB 329 [0, 28] 7 493 f_329_493 := by
  unfold f_329_493
  exact fo_goto (fa_329 rfl) (pcT := 4039) rfl fs_329_4039
theorem fs_329_476 : fSB 329 [0, 28] 7 476 f_329_476 := by
  unfold f_329_476
  refine fo_iload (k := 6) (fa_329 rfl) ?_
  refine fo_if_ne (fa_329 rfl) (pcT := 493) rfl fs_329_493 ?_
  refine fo_aload_n (k := 3) (fa_329 rfl) ?_
  refine fo_iconst (fa_329 rfl) fk_c_0 ?_
  refine fo_laload (fa_329 rfl) ?_
  refine fo_iload (k := 7) (fa_329 rfl) ?_
  refine fo_i2l (fa_329 rfl) ?_
  refine fo_lcmp (fa_329 rfl) ?_
  refine fo_if_eq (fa_329 rfl) (pcT := 493) rfl fs_329_493 ?_
  refine fo_iconst (fa_329 rfl) fk_c_0 ?_
  exact fo_iret (fa_329 rfl) fr_329 fw_bool
theorem fs_329_416 : fSB 329 [0, 28] 7 416 f_329_416 := by
  unfold f_329_416
  refine fo_aload_n (k := 1) (fa_329 rfl) ?_
  refine fo_sld (fa_329 rfl) ?_
  refine fo_iload (k := 5) (fa_329 rfl) ?_
  refine fo_iconst (fa_329 rfl) fk_c_1 ?_
  refine fo_iadd (fa_329 rfl) ?_
  refine fo_sia (fa_329 rfl) ?_
  refine fo_sld (fa_329 rfl) ?_
  refine fo_iload (k := 5) (fa_329 rfl) ?_
  refine fo_iconst (fa_329 rfl) fk_c_2 ?_
  refine fo_iadd (fa_329 rfl) ?_
  refine fo_sia (fa_329 rfl) ?_
  refine fo_sld (fa_329 rfl) ?_
  refine fo_iload (k := 5) (fa_329 rfl) ?_
  refine fo_iconst (fa_329 rfl) fk_c_3 ?_
  refine fo_iadd (fa_329 rfl) ?_
  refine fo_sia (fa_329 rfl) ?_
  refine fo_aload_n (k := 3) (fa_329 rfl) ?_
  refine fo_static (by decide) (fo_callH (fa_329 rfl) fNs_static fsm_279 (by decide) fFil_1 fna_279 fx_279 (Or.inl rfl) fHd_nil ?_)
  refine fo_istore (k := 6) (fa_329 rfl) ?_
  refine fo_aload_n (k := 2) (fa_329 rfl) ?_
  refine fo_sld (fa_329 rfl) ?_
  refine fo_iload (k := 5) (fa_329 rfl) ?_
  refine fo_iconst (fa_329 rfl) fk_c_1 ?_
  refine fo_iadd (fa_329 rfl) ?_
  refine fo_sia (fa_329 rfl) ?_
  refine fo_sld (fa_329 rfl) ?_
  refine fo_iload (k := 5) (fa_329 rfl) ?_
  refine fo_iconst (fa_329 rfl) fk_c_2 ?_
  refine fo_iadd (fa_329 rfl) ?_
  refine fo_sia (fa_329 rfl) ?_
  refine fo_sld (fa_329 rfl) ?_
  refine fo_iload (k := 5) (fa_329 rfl) ?_
  refine fo_iconst (fa_329 rfl) fk_c_3 ?_
  refine fo_iadd (fa_329 rfl) ?_
  refine fo_sia (fa_329 rfl) ?_
  refine fo_virtual (by decide) fna_190 (fo_call (fa_329 rfl) fNs_virtual fsm_190 (by decide) fFil_3 fna_190 fx_190 (by rw [fP_190]; rfl) fh_329 ?_)
  refine fo_istore (k := 7) (fa_329 rfl) ?_
  refine fo_aload_n (k := 2) (fa_329 rfl) ?_
  refine fo_virtual (by decide) fna_170 (fo_call (fa_329 rfl) fNs_virtual fsm_170 (by decide) fFil_0 fna_170 fx_170 (by rw [fP_170]; rfl) fh_329 ?_)
  refine fo_iload (k := 6) (fa_329 rfl) ?_
  refine fo_icmp_eq (fa_329 rfl) (pcT := 476) rfl fs_329_476 ?_
  refine fo_iconst (fa_329 rfl) fk_c_0 ?_
  exact fo_iret (fa_329 rfl) fr_329 fw_bool
theorem fs_329_413 : fSB 329 [0, 28] 7 413 f_329_413 := by
  unfold f_329_413
  exact fo_goto (fa_329 rfl) (pcT := 4039) rfl fs_329_4039
theorem fs_329_396 : fSB 329 [0, 28] 7 396 f_329_396 := by
  unfold f_329_396
  refine fo_iload (k := 6) (fa_329 rfl) ?_
  refine fo_if_ne (fa_329 rfl) (pcT := 413) rfl fs_329_413 ?_
  refine fo_aload_n (k := 3) (fa_329 rfl) ?_
  refine fo_iconst (fa_329 rfl) fk_c_0 ?_
  refine fo_laload (fa_329 rfl) ?_
  refine fo_iload (k := 7) (fa_329 rfl) ?_
  refine fo_i2l (fa_329 rfl) ?_
  refine fo_lcmp (fa_329 rfl) ?_
  refine fo_if_eq (fa_329 rfl) (pcT := 413) rfl fs_329_413 ?_
  refine fo_iconst (fa_329 rfl) fk_c_0 ?_
  exact fo_iret (fa_329 rfl) fr_329 fw_bool
theorem fs_329_348 : fSB 329 [0, 28] 7 348 f_329_348 := by
  unfold f_329_348
  refine fo_aload_n (k := 1) (fa_329 rfl) ?_
  refine fo_sld (fa_329 rfl) ?_
  refine fo_iload (k := 5) (fa_329 rfl) ?_
  refine fo_iconst (fa_329 rfl) fk_c_1 ?_
  refine fo_iadd (fa_329 rfl) ?_
  refine fo_sia (fa_329 rfl) ?_
  refine fo_sld (fa_329 rfl) ?_
  refine fo_iload (k := 5) (fa_329 rfl) ?_
  refine fo_iconst (fa_329 rfl) fk_c_2 ?_
  refine fo_iadd (fa_329 rfl) ?_
  refine fo_sia (fa_329 rfl) ?_
  refine fo_aload_n (k := 3) (fa_329 rfl) ?_
  refine fo_static (by decide) (fo_callH (fa_329 rfl) fNs_static fsm_278 (by decide) fFil_1 fna_278 fx_278 (Or.inl rfl) fHd_nil ?_)
  refine fo_istore (k := 6) (fa_329 rfl) ?_
  refine fo_aload_n (k := 2) (fa_329 rfl) ?_
  refine fo_sld (fa_329 rfl) ?_
  refine fo_iload (k := 5) (fa_329 rfl) ?_
  refine fo_iconst (fa_329 rfl) fk_c_1 ?_
  refine fo_iadd (fa_329 rfl) ?_
  refine fo_sia (fa_329 rfl) ?_
  refine fo_sld (fa_329 rfl) ?_
  refine fo_iload (k := 5) (fa_329 rfl) ?_
  refine fo_iconst (fa_329 rfl) fk_c_2 ?_
  refine fo_iadd (fa_329 rfl) ?_
  refine fo_sia (fa_329 rfl) ?_
  refine fo_virtual (by decide) fna_189 (fo_call (fa_329 rfl) fNs_virtual fsm_189 (by decide) fFil_3 fna_189 fx_189 (by rw [fP_189]; rfl) fh_329 ?_)
  refine fo_istore (k := 7) (fa_329 rfl) ?_
  refine fo_aload_n (k := 2) (fa_329 rfl) ?_
  refine fo_virtual (by decide) fna_170 (fo_call (fa_329 rfl) fNs_virtual fsm_170 (by decide) fFil_0 fna_170 fx_170 (by rw [fP_170]; rfl) fh_329 ?_)
  refine fo_iload (k := 6) (fa_329 rfl) ?_
  refine fo_icmp_eq (fa_329 rfl) (pcT := 396) rfl fs_329_396 ?_
  refine fo_iconst (fa_329 rfl) fk_c_0 ?_
  exact fo_iret (fa_329 rfl) fr_329 fw_bool
theorem fs_329_345 : fSB 329 [0, 28] 7 345 f_329_345 := by
  unfold f_329_345
  exact fo_goto (fa_329 rfl) (pcT := 4039) rfl fs_329_4039
theorem fs_329_328 : fSB 329 [0, 28] 7 328 f_329_328 := by
  unfold f_329_328
  refine fo_iload (k := 6) (fa_329 rfl) ?_
  refine fo_if_ne (fa_329 rfl) (pcT := 345) rfl fs_329_345 ?_
  refine fo_aload_n (k := 3) (fa_329 rfl) ?_
  refine fo_iconst (fa_329 rfl) fk_c_0 ?_
  refine fo_laload (fa_329 rfl) ?_
  refine fo_iload (k := 7) (fa_329 rfl) ?_
  refine fo_i2l (fa_329 rfl) ?_
  refine fo_lcmp (fa_329 rfl) ?_
  refine fo_if_eq (fa_329 rfl) (pcT := 345) rfl fs_329_345 ?_
  refine fo_iconst (fa_329 rfl) fk_c_0 ?_
  exact fo_iret (fa_329 rfl) fr_329 fw_bool
theorem fs_329_280 : fSB 329 [0, 28] 7 280 f_329_280 := by
  unfold f_329_280
  refine fo_aload_n (k := 1) (fa_329 rfl) ?_
  refine fo_sld (fa_329 rfl) ?_
  refine fo_iload (k := 5) (fa_329 rfl) ?_
  refine fo_iconst (fa_329 rfl) fk_c_1 ?_
  refine fo_iadd (fa_329 rfl) ?_
  refine fo_sia (fa_329 rfl) ?_
  refine fo_sld (fa_329 rfl) ?_
  refine fo_iload (k := 5) (fa_329 rfl) ?_
  refine fo_iconst (fa_329 rfl) fk_c_2 ?_
  refine fo_iadd (fa_329 rfl) ?_
  refine fo_sia (fa_329 rfl) ?_
  refine fo_aload_n (k := 3) (fa_329 rfl) ?_
  refine fo_static (by decide) (fo_callH (fa_329 rfl) fNs_static fsm_277 (by decide) fFil_1 fna_277 fx_277 (Or.inl rfl) fHd_nil ?_)
  refine fo_istore (k := 6) (fa_329 rfl) ?_
  refine fo_aload_n (k := 2) (fa_329 rfl) ?_
  refine fo_sld (fa_329 rfl) ?_
  refine fo_iload (k := 5) (fa_329 rfl) ?_
  refine fo_iconst (fa_329 rfl) fk_c_1 ?_
  refine fo_iadd (fa_329 rfl) ?_
  refine fo_sia (fa_329 rfl) ?_
  refine fo_sld (fa_329 rfl) ?_
  refine fo_iload (k := 5) (fa_329 rfl) ?_
  refine fo_iconst (fa_329 rfl) fk_c_2 ?_
  refine fo_iadd (fa_329 rfl) ?_
  refine fo_sia (fa_329 rfl) ?_
  refine fo_virtual (by decide) fna_188 (fo_call (fa_329 rfl) fNs_virtual fsm_188 (by decide) fFil_1 fna_188 fx_188 (by rw [fP_188]; rfl) fh_329 ?_)
  refine fo_istore (k := 7) (fa_329 rfl) ?_
  refine fo_aload_n (k := 2) (fa_329 rfl) ?_
  refine fo_virtual (by decide) fna_170 (fo_call (fa_329 rfl) fNs_virtual fsm_170 (by decide) fFil_0 fna_170 fx_170 (by rw [fP_170]; rfl) fh_329 ?_)
  refine fo_iload (k := 6) (fa_329 rfl) ?_
  refine fo_icmp_eq (fa_329 rfl) (pcT := 328) rfl fs_329_328 ?_
  refine fo_iconst (fa_329 rfl) fk_c_0 ?_
  exact fo_iret (fa_329 rfl) fr_329 fw_bool
theorem fs_329_28 : fSB 329 [0, 28] 7 28 f_329_28 := by
  unfold f_329_28
  refine fo_iload (k := 5) (fa_329 rfl) ?_
  refine fo_sld (fa_329 rfl) ?_
  refine fo_slen (fa_329 rfl) ?_
  refine fo_iconst (fa_329 rfl) fk_c_5 ?_
  refine fo_isub (fa_329 rfl) ?_
  refine fo_icmp_gt (fa_329 rfl) (pcT := 4045) rfl fs_329_4045 ?_
  refine fo_sld (fa_329 rfl) ?_
  refine fo_iload (k := 5) (fa_329 rfl) ?_
  refine fo_sia (fa_329 rfl) ?_
  refine fo_bipush (fa_329 rfl) fk_b_63 ?_
  refine fo_and63 (fa_329 rfl) ?_
  exact fo_tsw (fa_329 rfl) rfl (pcD := 4039) rfl fs_329_4039 ⟨fs_329_280, fs_329_348, fs_329_416, fs_329_496, fs_329_564, fs_329_632, fs_329_700, fs_329_768, fs_329_848, fs_329_904, fs_329_960, fs_329_1028, fs_329_1096, fs_329_1176, fs_329_1256, fs_329_1336, fs_329_1399, fs_329_1455, fs_329_1535, fs_329_1603, fs_329_1671, fs_329_1779, fs_329_1835, fs_329_1903, fs_329_1983, fs_329_2046, fs_329_2102, fs_329_2194, fs_329_2274, fs_329_2366, fs_329_2422, fs_329_2502, fs_329_2565, fs_329_2661, fs_329_2736, fs_329_2792, fs_329_2860, fs_329_2928, fs_329_2996, fs_329_3076, fs_329_3172, fs_329_3235, fs_329_3303, fs_329_3383, fs_329_3470, fs_329_3526, fs_329_3606, fs_329_3686, fs_329_3744, fs_329_3757, fs_329_3813, fs_329_3857, fs_329_3934, fs_329_4012, fs_329_4026, trivial⟩
theorem fs_329_0 : fSB 329 [0, 28] 7 0 f_329_0 := by
  unfold f_329_0
  refine fo_new (fa_329 rfl) fd_6 (by decide) rfl (by decide) ?_
  refine fo_dup (fa_329 rfl) ?_
  refine fo_special (by decide) fna_79 (fo_callH (fa_329 rfl) fNs_special fsm_79 (by decide) fFil_1 fna_79 fx_79 (Or.inl rfl) fHd_nil ?_)
  refine fo_astore_n (k := 1) (fa_329 rfl) ?_
  refine fo_new (fa_329 rfl) fd_7 (by decide) rfl (by decide) ?_
  refine fo_dup (fa_329 rfl) ?_
  refine fo_special (by decide) fna_169 (fo_callH (fa_329 rfl) fNs_special fsm_169 (by decide) fFil_0 fna_169 fx_169 (Or.inl rfl) fHd_nil ?_)
  refine fo_astore_n (k := 2) (fa_329 rfl) ?_
  refine fo_iconst (fa_329 rfl) fk_c_1 ?_
  refine fo_newarray (fa_329 rfl) rfl (by decide) (by decide) fel_21_0 ?_
  refine fo_astore_n (k := 3) (fa_329 rfl) ?_
  refine fo_iconst (fa_329 rfl) fk_c_1 ?_
  refine fo_newarray (fa_329 rfl) rfl (by decide) (by decide) (fel_24 0) ?_
  refine fo_astore (k := 4) (fa_329 rfl) ?_
  refine fo_iconst (fa_329 rfl) fk_c_0 ?_
  refine fo_istore (k := 5) (fa_329 rfl) ?_
  exact fs_329_28
theorem fHs_329 : fHs 329 [0, 28] 7 [0, 28] fC_329 := ⟨fs_329_0, fs_329_28, trivial⟩
