theorem fP_117 : mj_P 117 = (7, 3, (some .int), mcX7_primes, []) := rfl
theorem fa_117 {pc : Nat} {e : mjE} (h : mj_at mcX7_primes pc = some e) : fAt 117 pc e := by unfold fAt; rw [fP_117]; exact h
theorem fr_117 : (mj_P 117).2.2.1 = (some .int) := by rw [fP_117]
theorem fna_117 : (mj_P 117).2.1 = 3 := by rw [fP_117]
theorem fx_117 : 3 ≤ mj_mx.getD 117 0 := by decide
theorem fh_117 : (mj_P 117).2.2.2.2.isEmpty = true := by rw [fP_117]; rfl
theorem fs_117_41 : fSB 117 [0] 3 41 f_117_41 := by
  unfold f_117_41
  refine fo_aload_n (k := 0) (fa_117 rfl) ?_
  refine fo_getr (fa_117 rfl) (by decide) rfl ?_
  refine fo_iload_n (k := 2) (fa_117 rfl) ?_
  refine fo_virtual (by decide) fna_59 (fo_call (fa_117 rfl) fNs_virtual fsm_59 (by decide) fFil_4 fna_59 fx_59 (by rw [fP_59]; rfl) fh_117 ?_)
  refine fo_aload_n (k := 0) (fa_117 rfl) ?_
  refine fo_iload_n (k := 1) (fa_117 rfl) ?_
  refine fo_virtual (by decide) fna_145 (fo_call (fa_117 rfl) fNs_virtual fsm_145 (by decide) fFil_0 fna_145 fx_145 (by rw [fP_145]; rfl) fh_117 ?_)
  exact fo_iret (fa_117 rfl) fr_117 fw_int
theorem fs_117_0 : fSB 117 [0] 3 0 f_117_0 := by
  unfold f_117_0
  refine fo_iload_n (k := 1) (fa_117 rfl) ?_
  refine fo_static (by decide) (fo_call (fa_117 rfl) fNs_static fsm_137 (by decide) fFil_0 fna_137 fx_137 (by rw [fP_137]; rfl) fh_117 ?_)
  refine fo_iload_n (k := 2) (fa_117 rfl) ?_
  refine fo_iconst (fa_117 rfl) fk_c_3 ?_
  refine fo_icmp_eq (fa_117 rfl) (pcT := 41) rfl fs_117_41 ?_
  refine fo_iload_n (k := 2) (fa_117 rfl) ?_
  refine fo_bipush (fa_117 rfl) fk_b_7 ?_
  refine fo_icmp_eq (fa_117 rfl) (pcT := 41) rfl fs_117_41 ?_
  refine fo_iload_n (k := 2) (fa_117 rfl) ?_
  refine fo_bipush (fa_117 rfl) fk_b_11 ?_
  refine fo_icmp_eq (fa_117 rfl) (pcT := 41) rfl fs_117_41 ?_
  refine fo_iload_n (k := 2) (fa_117 rfl) ?_
  refine fo_bipush (fa_117 rfl) fk_b_19 ?_
  refine fo_icmp_eq (fa_117 rfl) (pcT := 41) rfl fs_117_41 ?_
  refine fo_iload_n (k := 2) (fa_117 rfl) ?_
  refine fo_bipush (fa_117 rfl) fk_b_23 ?_
  refine fo_icmp_eq (fa_117 rfl) (pcT := 41) rfl fs_117_41 ?_
  exact fo_throw (fa_117 rfl) fh_117
theorem fsm_117 : fSM 117 3 fm_117 := fs_methH (lp := [0]) (by decide) rfl ⟨fs_117_0, trivial⟩
theorem fP_140 : mj_P 140 = (7, 2, (some (.object "DesignsOffice$SignRows")), mcX7_heldRows, []) := rfl
theorem fa_140 {pc : Nat} {e : mjE} (h : mj_at mcX7_heldRows pc = some e) : fAt 140 pc e := by unfold fAt; rw [fP_140]; exact h
theorem fr_140 : (mj_P 140).2.2.1 = (some (.object "DesignsOffice$SignRows")) := by rw [fP_140]
theorem fna_140 : (mj_P 140).2.1 = 2 := by rw [fP_140]
theorem fx_140 : 2 ≤ mj_mx.getD 140 0 := by decide
theorem fh_140 : (mj_P 140).2.2.2.2.isEmpty = true := by rw [fP_140]; rfl
theorem fs_140_26 : fSB 140 [0] 1 26 f_140_26 := by
  unfold f_140_26
  refine fo_aload_n (k := 2) (fa_140 rfl) ?_
  exact fo_aret (fa_140 rfl) (by rw [fr_140]; rfl)
theorem fs_140_0 : fSB 140 [0] 1 0 f_140_0 := by
  unfold f_140_0
  refine fo_iload_n (k := 1) (fa_140 rfl) ?_
  refine fo_static (by decide) (fo_call (fa_140 rfl) fNs_static fsm_137 (by decide) fFil_0 fna_137 fx_137 (by rw [fP_137]; rfl) fh_140 ?_)
  refine fo_aload_n (k := 0) (fa_140 rfl) ?_
  refine fo_getr (fa_140 rfl) (by decide) rfl ?_
  refine fo_iload_n (k := 1) (fa_140 rfl) ?_
  refine fo_aaload (fa_140 rfl) (by decide) (by decide) ?_
  refine fo_astore_n (k := 2) (fa_140 rfl) ?_
  refine fo_aload_n (k := 2) (fa_140 rfl) ?_
  refine fo_geti (fa_140 rfl) (by decide) rfl ?_
  refine fo_if_ne (fa_140 rfl) (pcT := 26) rfl fs_140_26 ?_
  exact fo_throw (fa_140 rfl) fh_140
theorem fsm_140 : fSM 140 1 fm_140 := fs_methH (lp := [0]) (by decide) rfl ⟨fs_140_0, trivial⟩
theorem fP_118 : mj_P 118 = (7, 4, (some .int), mcX7_sign, []) := rfl
theorem fa_118 {pc : Nat} {e : mjE} (h : mj_at mcX7_sign pc = some e) : fAt 118 pc e := by unfold fAt; rw [fP_118]; exact h
theorem fr_118 : (mj_P 118).2.2.1 = (some .int) := by rw [fP_118]
theorem fna_118 : (mj_P 118).2.1 = 4 := by rw [fP_118]
theorem fx_118 : 4 ≤ mj_mx.getD 118 0 := by decide
theorem fh_118 : (mj_P 118).2.2.2.2.isEmpty = true := by rw [fP_118]; rfl
theorem fs_118_41 : fSB 118 [0] 2 41 f_118_41 := by
  unfold f_118_41
  refine fo_aload (k := 4) (fa_118 rfl) ?_
  refine fo_iload_n (k := 2) (fa_118 rfl) ?_
  refine fo_iload_n (k := 3) (fa_118 rfl) ?_
  refine fo_virtual (by decide) fna_49 (fo_call (fa_118 rfl) fNs_virtual fsm_49 (by decide) fFil_0 fna_49 fx_49 (by rw [fP_49]; rfl) fh_118 ?_)
  exact fo_iret (fa_118 rfl) fr_118 fw_int
theorem fs_118_33 : fSB 118 [0] 2 33 f_118_33 := by
  unfold f_118_33
  exact fo_throw (fa_118 rfl) fh_118
theorem fs_118_0 : fSB 118 [0] 2 0 f_118_0 := by
  unfold f_118_0
  refine fo_aload_n (k := 0) (fa_118 rfl) ?_
  refine fo_iload_n (k := 1) (fa_118 rfl) ?_
  refine fo_virtual (by decide) fna_140 (fo_call (fa_118 rfl) fNs_virtual fsm_140 (by decide) fFil_1 fna_140 fx_140 (by rw [fP_140]; rfl) fh_118 ?_)
  refine fo_astore (k := 4) (fa_118 rfl) ?_
  refine fo_iload_n (k := 2) (fa_118 rfl) ?_
  refine fo_if_lt (fa_118 rfl) (pcT := 33) rfl fs_118_33 ?_
  refine fo_iload_n (k := 2) (fa_118 rfl) ?_
  refine fo_aload (k := 4) (fa_118 rfl) ?_
  refine fo_geti (fa_118 rfl) (by decide) rfl ?_
  refine fo_icmp_ge (fa_118 rfl) (pcT := 33) rfl fs_118_33 ?_
  refine fo_iload_n (k := 3) (fa_118 rfl) ?_
  refine fo_if_lt (fa_118 rfl) (pcT := 33) rfl fs_118_33 ?_
  refine fo_iload_n (k := 3) (fa_118 rfl) ?_
  refine fo_aload (k := 4) (fa_118 rfl) ?_
  refine fo_geti (fa_118 rfl) (by decide) rfl ?_
  refine fo_icmp_lt (fa_118 rfl) (pcT := 41) rfl fs_118_41 ?_
  exact fs_118_33
theorem fsm_118 : fSM 118 2 fm_118 := fs_methH (lp := [0]) (by decide) rfl ⟨fs_118_0, trivial⟩
theorem fP_119 : mj_P 119 = (7, 4, (some .int), mcX7_flip, []) := rfl
theorem fa_119 {pc : Nat} {e : mjE} (h : mj_at mcX7_flip pc = some e) : fAt 119 pc e := by unfold fAt; rw [fP_119]; exact h
theorem fr_119 : (mj_P 119).2.2.1 = (some .int) := by rw [fP_119]
theorem fna_119 : (mj_P 119).2.1 = 4 := by rw [fP_119]
theorem fx_119 : 4 ≤ mj_mx.getD 119 0 := by decide
theorem fh_119 : (mj_P 119).2.2.2.2.isEmpty = true := by rw [fP_119]; rfl
theorem fs_119_53 : fSB 119 [0] 2 53 f_119_53 := by
  unfold f_119_53
  exact fo_iret (fa_119 rfl) fr_119 fw_int
theorem fs_119_47 : fSB 119 [0] 2 47 f_119_47 := by
  unfold f_119_47
  refine fo_aload (k := 4) (fa_119 rfl) ?_
  refine fo_iload_n (k := 3) (fa_119 rfl) ?_
  refine fo_virtual (by decide) fna_55 (fo_call (fa_119 rfl) fNs_virtual fsm_55 (by decide) fFil_2 fna_55 fx_55 (by rw [fP_55]; rfl) fh_119 ?_)
  exact fs_119_53
theorem fs_119_28 : fSB 119 [0] 2 28 f_119_28 := by
  unfold f_119_28
  refine fo_aload_n (k := 0) (fa_119 rfl) ?_
  refine fo_iconst (fa_119 rfl) fk_c_2 ?_
  refine fo_iload_n (k := 1) (fa_119 rfl) ?_
  refine fo_virtual (by decide) fna_146 (fo_call (fa_119 rfl) fNs_virtual fsm_146 (by decide) fFil_1 fna_146 fx_146 (by rw [fP_146]; rfl) fh_119 ?_)
  refine fo_iload_n (k := 2) (fa_119 rfl) ?_
  refine fo_if_eq (fa_119 rfl) (pcT := 47) rfl fs_119_47 ?_
  refine fo_aload (k := 4) (fa_119 rfl) ?_
  refine fo_iload_n (k := 3) (fa_119 rfl) ?_
  refine fo_virtual (by decide) fna_54 (fo_call (fa_119 rfl) fNs_virtual fsm_54 (by decide) fFil_0 fna_54 fx_54 (by rw [fP_54]; rfl) fh_119 ?_)
  exact fo_goto (fa_119 rfl) (pcT := 53) rfl fs_119_53
theorem fs_119_20 : fSB 119 [0] 2 20 f_119_20 := by
  unfold f_119_20
  exact fo_throw (fa_119 rfl) fh_119
theorem fs_119_0 : fSB 119 [0] 2 0 f_119_0 := by
  unfold f_119_0
  refine fo_aload_n (k := 0) (fa_119 rfl) ?_
  refine fo_iload_n (k := 1) (fa_119 rfl) ?_
  refine fo_virtual (by decide) fna_140 (fo_call (fa_119 rfl) fNs_virtual fsm_140 (by decide) fFil_1 fna_140 fx_140 (by rw [fP_140]; rfl) fh_119 ?_)
  refine fo_astore (k := 4) (fa_119 rfl) ?_
  refine fo_iload_n (k := 3) (fa_119 rfl) ?_
  refine fo_if_lt (fa_119 rfl) (pcT := 20) rfl fs_119_20 ?_
  refine fo_iload_n (k := 3) (fa_119 rfl) ?_
  refine fo_aload (k := 4) (fa_119 rfl) ?_
  refine fo_geti (fa_119 rfl) (by decide) rfl ?_
  refine fo_icmp_lt (fa_119 rfl) (pcT := 28) rfl fs_119_28 ?_
  exact fs_119_20
theorem fsm_119 : fSM 119 2 fm_119 := fs_methH (lp := [0]) (by decide) rfl ⟨fs_119_0, trivial⟩
theorem fP_120 : mj_P 120 = (7, 2, (some .boolean), mcX7_areRowsApart, []) := rfl
theorem fa_120 {pc : Nat} {e : mjE} (h : mj_at mcX7_areRowsApart pc = some e) : fAt 120 pc e := by unfold fAt; rw [fP_120]; exact h
theorem fr_120 : (mj_P 120).2.2.1 = (some .boolean) := by rw [fP_120]
theorem fna_120 : (mj_P 120).2.1 = 2 := by rw [fP_120]
theorem fx_120 : 2 ≤ mj_mx.getD 120 0 := by decide
theorem fh_120 : (mj_P 120).2.2.2.2.isEmpty = true := by rw [fP_120]; rfl
theorem fs_120_0 : fSB 120 [0] 2 0 f_120_0 := by
  unfold f_120_0
  refine fo_aload_n (k := 0) (fa_120 rfl) ?_
  refine fo_iload_n (k := 1) (fa_120 rfl) ?_
  refine fo_virtual (by decide) fna_140 (fo_call (fa_120 rfl) fNs_virtual fsm_140 (by decide) fFil_1 fna_140 fx_140 (by rw [fP_140]; rfl) fh_120 ?_)
  refine fo_virtual (by decide) fna_56 (fo_call (fa_120 rfl) fNs_virtual fsm_56 (by decide) fFil_2 fna_56 fx_56 (by rw [fP_56]; rfl) fh_120 ?_)
  exact fo_iret (fa_120 rfl) fr_120 fw_bool
theorem fsm_120 : fSM 120 2 fm_120 := fs_methH (lp := [0]) (by decide) rfl ⟨fs_120_0, trivial⟩
theorem fP_121 : mj_P 121 = (7, 3, (some .int), mcX7_designOf, []) := rfl
theorem fa_121 {pc : Nat} {e : mjE} (h : mj_at mcX7_designOf pc = some e) : fAt 121 pc e := by unfold fAt; rw [fP_121]; exact h
theorem fr_121 : (mj_P 121).2.2.1 = (some .int) := by rw [fP_121]
theorem fna_121 : (mj_P 121).2.1 = 3 := by rw [fP_121]
theorem fx_121 : 3 ≤ mj_mx.getD 121 0 := by decide
theorem fh_121 : (mj_P 121).2.2.2.2.isEmpty = true := by rw [fP_121]; rfl
theorem fs_121_65 : fSB 121 [0, 33] 3 65 f_121_65 := by
  unfold f_121_65
  refine fo_aload_n (k := 0) (fa_121 rfl) ?_
  refine fo_getr (fa_121 rfl) (by decide) rfl ?_
  refine fo_aload_n (k := 3) (fa_121 rfl) ?_
  refine fo_virtual (by decide) fna_42 (fo_call (fa_121 rfl) fNs_virtual fsm_42 (by decide) fFil_1 fna_42 fx_42 (by rw [fP_42]; rfl) fh_121 ?_)
  refine fo_aload_n (k := 0) (fa_121 rfl) ?_
  refine fo_iload_n (k := 2) (fa_121 rfl) ?_
  refine fo_virtual (by decide) fna_143 (fo_call (fa_121 rfl) fNs_virtual fsm_143 (by decide) fFil_0 fna_143 fx_143 (by rw [fP_143]; rfl) fh_121 ?_)
  exact fo_iret (fa_121 rfl) fr_121 fw_int
theorem fs_121_59 : fSB 121 [0, 33] 3 59 f_121_59 := by
  unfold f_121_59
  refine fo_iinc (k := 4) (fa_121 rfl) fk_c_1 ?_
  exact fo_goto (fa_121 rfl) (pcT := 33) rfl (fo_back (q := 33) rfl)
theorem fs_121_33 : fSB 121 [0, 33] 3 33 f_121_33 := by
  unfold f_121_33
  refine fo_iload (k := 4) (fa_121 rfl) ?_
  refine fo_aload_n (k := 3) (fa_121 rfl) ?_
  refine fo_geti (fa_121 rfl) (by decide) rfl ?_
  refine fo_icmp_ge (fa_121 rfl) (pcT := 65) rfl fs_121_65 ?_
  refine fo_aload_n (k := 3) (fa_121 rfl) ?_
  refine fo_iload (k := 4) (fa_121 rfl) ?_
  refine fo_virtual (by decide) fna_57 (fo_call (fa_121 rfl) fNs_virtual fsm_57 (by decide) fFil_2 fna_57 fx_57 (by rw [fP_57]; rfl) fh_121 ?_)
  refine fo_if_ne (fa_121 rfl) (pcT := 59) rfl fs_121_59 ?_
  exact fo_throw (fa_121 rfl) fh_121
theorem fs_121_30 : fSB 121 [0, 33] 3 30 f_121_30 := by
  unfold f_121_30
  refine fo_iconst (fa_121 rfl) fk_c_1 ?_
  refine fo_istore (k := 4) (fa_121 rfl) ?_
  exact fs_121_33
theorem fs_121_0 : fSB 121 [0, 33] 3 0 f_121_0 := by
  unfold f_121_0
  refine fo_iload_n (k := 1) (fa_121 rfl) ?_
  refine fo_static (by decide) (fo_call (fa_121 rfl) fNs_static fsm_137 (by decide) fFil_0 fna_137 fx_137 (by rw [fP_137]; rfl) fh_121 ?_)
  refine fo_iload_n (k := 2) (fa_121 rfl) ?_
  refine fo_static (by decide) (fo_call (fa_121 rfl) fNs_static fsm_135 (by decide) fFil_0 fna_135 fx_135 (by rw [fP_135]; rfl) fh_121 ?_)
  refine fo_aload_n (k := 0) (fa_121 rfl) ?_
  refine fo_iload_n (k := 1) (fa_121 rfl) ?_
  refine fo_virtual (by decide) fna_140 (fo_call (fa_121 rfl) fNs_virtual fsm_140 (by decide) fFil_1 fna_140 fx_140 (by rw [fP_140]; rfl) fh_121 ?_)
  refine fo_astore_n (k := 3) (fa_121 rfl) ?_
  refine fo_aload_n (k := 3) (fa_121 rfl) ?_
  refine fo_geti (fa_121 rfl) (by decide) rfl ?_
  refine fo_iconst (fa_121 rfl) fk_c_4 ?_
  refine fo_icmp_ge (fa_121 rfl) (pcT := 30) rfl fs_121_30 ?_
  exact fo_throw (fa_121 rfl) fh_121
theorem fsm_121 : fSM 121 3 fm_121 := fs_methH (lp := [0, 33]) (by decide) rfl ⟨fs_121_0, fs_121_33, trivial⟩
theorem fP_156 : mj_P 156 = (7, 3, none, mcX7_checkDay, []) := rfl
theorem fa_156 {pc : Nat} {e : mjE} (h : mj_at mcX7_checkDay pc = some e) : fAt 156 pc e := by unfold fAt; rw [fP_156]; exact h
theorem fr_156 : (mj_P 156).2.2.1 = none := by rw [fP_156]
theorem fna_156 : (mj_P 156).2.1 = 3 := by rw [fP_156]
theorem fx_156 : 3 ≤ mj_mx.getD 156 0 := by decide
theorem fh_156 : (mj_P 156).2.2.2.2.isEmpty = true := by rw [fP_156]; rfl
theorem fs_156_45 : fSB 156 [0] 0 45 f_156_45 := by
  unfold f_156_45
  exact fo_ret (fa_156 rfl) fr_156
theorem fs_156_37 : fSB 156 [0] 0 37 f_156_37 := by
  unfold f_156_37
  exact fo_throw (fa_156 rfl) fh_156
theorem fs_156_0 : fSB 156 [0] 0 0 f_156_0 := by
  unfold f_156_0
  refine fo_iload_n (k := 0) (fa_156 rfl) ?_
  refine fo_iconst (fa_156 rfl) fk_c_2 ?_
  refine fo_icmp_lt (fa_156 rfl) (pcT := 37) rfl fs_156_37 ?_
  refine fo_iload_n (k := 0) (fa_156 rfl) ?_
  refine fo_bipush (fa_156 rfl) fk_b_20 ?_
  refine fo_icmp_gt (fa_156 rfl) (pcT := 37) rfl fs_156_37 ?_
  refine fo_iload_n (k := 0) (fa_156 rfl) ?_
  refine fo_iconst (fa_156 rfl) fk_c_2 ?_
  refine fo_irem (fa_156 rfl) ?_
  refine fo_if_ne (fa_156 rfl) (pcT := 37) rfl fs_156_37 ?_
  refine fo_iload_n (k := 1) (fa_156 rfl) ?_
  refine fo_if_lt (fa_156 rfl) (pcT := 37) rfl fs_156_37 ?_
  refine fo_iload_n (k := 1) (fa_156 rfl) ?_
  refine fo_iload_n (k := 0) (fa_156 rfl) ?_
  refine fo_iconst (fa_156 rfl) fk_c_2 ?_
  refine fo_isub (fa_156 rfl) ?_
  refine fo_icmp_gt (fa_156 rfl) (pcT := 37) rfl fs_156_37 ?_
  refine fo_iload_n (k := 2) (fa_156 rfl) ?_
  refine fo_if_lt (fa_156 rfl) (pcT := 37) rfl fs_156_37 ?_
  refine fo_iload_n (k := 2) (fa_156 rfl) ?_
  refine fo_iload_n (k := 0) (fa_156 rfl) ?_
  refine fo_icmp_lt (fa_156 rfl) (pcT := 45) rfl fs_156_45 ?_
  exact fs_156_37
theorem fsm_156 : fSM 156 0 fm_156 := fs_methH (lp := [0]) (by decide) rfl ⟨fs_156_0, trivial⟩
theorem fP_157 : mj_P 157 = (7, 3, (some .int), mcX7_otherTeam, []) := rfl
theorem fa_157 {pc : Nat} {e : mjE} (h : mj_at mcX7_otherTeam pc = some e) : fAt 157 pc e := by unfold fAt; rw [fP_157]; exact h
theorem fr_157 : (mj_P 157).2.2.1 = (some .int) := by rw [fP_157]
theorem fna_157 : (mj_P 157).2.1 = 3 := by rw [fP_157]
theorem fx_157 : 3 ≤ mj_mx.getD 157 0 := by decide
theorem fh_157 : (mj_P 157).2.2.2.2.isEmpty = true := by rw [fP_157]; rfl
theorem fs_157_40 : fSB 157 [0] 2 40 f_157_40 := by
  unfold f_157_40
  exact fo_iret (fa_157 rfl) fr_157 fw_int
theorem fs_157_38 : fSB 157 [0] 2 38 f_157_38 := by
  unfold f_157_38
  refine fo_iload (k := 4) (fa_157 rfl) ?_
  exact fs_157_40
theorem fs_157_19 : fSB 157 [0] 2 19 f_157_19 := by
  unfold f_157_19
  refine fo_iload_n (k := 1) (fa_157 rfl) ?_
  refine fo_iload_n (k := 2) (fa_157 rfl) ?_
  refine fo_isub (fa_157 rfl) ?_
  refine fo_iload_n (k := 3) (fa_157 rfl) ?_
  refine fo_static (by decide) (fo_call (fa_157 rfl) fNs_static fsm_164 (by decide) fFil_0 fna_164 fx_164 (by rw [fP_164]; rfl) fh_157 ?_)
  refine fo_istore (k := 4) (fa_157 rfl) ?_
  refine fo_iload (k := 4) (fa_157 rfl) ?_
  refine fo_iload_n (k := 2) (fa_157 rfl) ?_
  refine fo_icmp_ne (fa_157 rfl) (pcT := 38) rfl fs_157_38 ?_
  refine fo_iload_n (k := 3) (fa_157 rfl) ?_
  exact fo_goto (fa_157 rfl) (pcT := 40) rfl fs_157_40
theorem fs_157_0 : fSB 157 [0] 2 0 f_157_0 := by
  unfold f_157_0
  refine fo_iload_n (k := 0) (fa_157 rfl) ?_
  refine fo_iconst (fa_157 rfl) fk_c_1 ?_
  refine fo_isub (fa_157 rfl) ?_
  refine fo_istore_n (k := 3) (fa_157 rfl) ?_
  refine fo_iload_n (k := 2) (fa_157 rfl) ?_
  refine fo_iload_n (k := 3) (fa_157 rfl) ?_
  refine fo_icmp_ne (fa_157 rfl) (pcT := 19) rfl fs_157_19 ?_
  refine fo_iload_n (k := 1) (fa_157 rfl) ?_
  refine fo_iload_n (k := 0) (fa_157 rfl) ?_
  refine fo_iconst (fa_157 rfl) fk_c_2 ?_
  refine fo_idiv (fa_157 rfl) ?_
  refine fo_imul (fa_157 rfl) ?_
  refine fo_iload_n (k := 3) (fa_157 rfl) ?_
  refine fo_static (by decide) (fo_call (fa_157 rfl) fNs_static fsm_164 (by decide) fFil_0 fna_164 fx_164 (by rw [fP_164]; rfl) fh_157 ?_)
  exact fo_iret (fa_157 rfl) fr_157 fw_int
theorem fsm_157 : fSM 157 2 fm_157 := fs_methH (lp := [0]) (by decide) rfl ⟨fs_157_0, trivial⟩
theorem fP_122 : mj_P 122 = (7, 4, (some .int), mcX7_plays, []) := rfl
theorem fa_122 {pc : Nat} {e : mjE} (h : mj_at mcX7_plays pc = some e) : fAt 122 pc e := by unfold fAt; rw [fP_122]; exact h
theorem fr_122 : (mj_P 122).2.2.1 = (some .int) := by rw [fP_122]
theorem fna_122 : (mj_P 122).2.1 = 4 := by rw [fP_122]
theorem fx_122 : 4 ≤ mj_mx.getD 122 0 := by decide
theorem fh_122 : (mj_P 122).2.2.2.2.isEmpty = true := by rw [fP_122]; rfl
theorem fs_122_0 : fSB 122 [0] 3 0 f_122_0 := by
  unfold f_122_0
  refine fo_iload_n (k := 1) (fa_122 rfl) ?_
  refine fo_iload_n (k := 2) (fa_122 rfl) ?_
  refine fo_iload_n (k := 3) (fa_122 rfl) ?_
  refine fo_static (by decide) (fo_call (fa_122 rfl) fNs_static fsm_156 (by decide) fFil_0 fna_156 fx_156 (by rw [fP_156]; rfl) fh_122 ?_)
  refine fo_iload_n (k := 1) (fa_122 rfl) ?_
  refine fo_iload_n (k := 2) (fa_122 rfl) ?_
  refine fo_iload_n (k := 3) (fa_122 rfl) ?_
  refine fo_static (by decide) (fo_call (fa_122 rfl) fNs_static fsm_157 (by decide) fFil_2 fna_157 fx_157 (by rw [fP_157]; rfl) fh_122 ?_)
  exact fo_iret (fa_122 rfl) fr_122 fw_int
theorem fsm_122 : fSM 122 3 fm_122 := fs_methH (lp := [0]) (by decide) rfl ⟨fs_122_0, trivial⟩
theorem fP_158 : mj_P 158 = (7, 3, (some .boolean), mcX7_isAtHome, []) := rfl
theorem fa_158 {pc : Nat} {e : mjE} (h : mj_at mcX7_isAtHome pc = some e) : fAt 158 pc e := by unfold fAt; rw [fP_158]; exact h
theorem fr_158 : (mj_P 158).2.2.1 = (some .boolean) := by rw [fP_158]
theorem fna_158 : (mj_P 158).2.1 = 3 := by rw [fP_158]
theorem fx_158 : 3 ≤ mj_mx.getD 158 0 := by decide
theorem fh_158 : (mj_P 158).2.2.2.2.isEmpty = true := by rw [fP_158]; rfl
theorem fs_158_84 : fSB 158 [0] 3 84 f_158_84 := by
  unfold f_158_84
  exact fo_iret (fa_158 rfl) fr_158 fw_bool
theorem fs_158_83 : fSB 158 [0] 3 83 f_158_83 := by
  unfold f_158_83
  refine fo_iconst (fa_158 rfl) fk_c_0 ?_
  exact fs_158_84
theorem fs_158_70 : fSB 158 [0] 3 70 f_158_70 := by
  unfold f_158_70
  refine fo_istore (k := 5) (fa_158 rfl) ?_
  refine fo_iload (k := 4) (fa_158 rfl) ?_
  refine fo_iload (k := 5) (fa_158 rfl) ?_
  refine fo_icmp_ne (fa_158 rfl) (pcT := 83) rfl fs_158_83 ?_
  refine fo_iconst (fa_158 rfl) fk_c_1 ?_
  exact fo_goto (fa_158 rfl) (pcT := 84) rfl fs_158_84
theorem fs_158_69 : fSB 158 [0] 3 69 f_158_69 := by
  unfold f_158_69
  refine fo_iconst (fa_158 rfl) fk_c_0 ?_
  exact fs_158_70
theorem fs_158_55 : fSB 158 [0] 3 55 f_158_55 := by
  unfold f_158_55
  refine fo_istore (k := 4) (fa_158 rfl) ?_
  refine fo_iload_n (k := 2) (fa_158 rfl) ?_
  refine fo_iload_n (k := 3) (fa_158 rfl) ?_
  refine fo_iadd (fa_158 rfl) ?_
  refine fo_iconst (fa_158 rfl) fk_c_2 ?_
  refine fo_irem (fa_158 rfl) ?_
  refine fo_if_eq (fa_158 rfl) (pcT := 69) rfl fs_158_69 ?_
  refine fo_iconst (fa_158 rfl) fk_c_1 ?_
  exact fo_goto (fa_158 rfl) (pcT := 70) rfl fs_158_70
theorem fs_158_54 : fSB 158 [0] 3 54 f_158_54 := by
  unfold f_158_54
  refine fo_iconst (fa_158 rfl) fk_c_0 ?_
  exact fs_158_55
theorem fs_158_45 : fSB 158 [0] 3 45 f_158_45 := by
  unfold f_158_45
  refine fo_iload_n (k := 2) (fa_158 rfl) ?_
  refine fo_iload_n (k := 3) (fa_158 rfl) ?_
  refine fo_icmp_ge (fa_158 rfl) (pcT := 54) rfl fs_158_54 ?_
  refine fo_iconst (fa_158 rfl) fk_c_1 ?_
  exact fo_goto (fa_158 rfl) (pcT := 55) rfl fs_158_55
theorem fs_158_44 : fSB 158 [0] 3 44 f_158_44 := by
  unfold f_158_44
  exact fo_iret (fa_158 rfl) fr_158 fw_bool
theorem fs_158_43 : fSB 158 [0] 3 43 f_158_43 := by
  unfold f_158_43
  refine fo_iconst (fa_158 rfl) fk_c_0 ?_
  exact fs_158_44
theorem fs_158_26 : fSB 158 [0] 3 26 f_158_26 := by
  unfold f_158_26
  refine fo_iload_n (k := 3) (fa_158 rfl) ?_
  refine fo_iload_n (k := 0) (fa_158 rfl) ?_
  refine fo_iconst (fa_158 rfl) fk_c_1 ?_
  refine fo_isub (fa_158 rfl) ?_
  refine fo_icmp_ne (fa_158 rfl) (pcT := 45) rfl fs_158_45 ?_
  refine fo_iload_n (k := 1) (fa_158 rfl) ?_
  refine fo_iconst (fa_158 rfl) fk_c_2 ?_
  refine fo_irem (fa_158 rfl) ?_
  refine fo_if_eq (fa_158 rfl) (pcT := 43) rfl fs_158_43 ?_
  refine fo_iconst (fa_158 rfl) fk_c_1 ?_
  exact fo_goto (fa_158 rfl) (pcT := 44) rfl fs_158_44
theorem fs_158_25 : fSB 158 [0] 3 25 f_158_25 := by
  unfold f_158_25
  exact fo_iret (fa_158 rfl) fr_158 fw_bool
theorem fs_158_24 : fSB 158 [0] 3 24 f_158_24 := by
  unfold f_158_24
  refine fo_iconst (fa_158 rfl) fk_c_0 ?_
  exact fs_158_25
theorem fs_158_0 : fSB 158 [0] 3 0 f_158_0 := by
  unfold f_158_0
  refine fo_iload_n (k := 0) (fa_158 rfl) ?_
  refine fo_iload_n (k := 1) (fa_158 rfl) ?_
  refine fo_iload_n (k := 2) (fa_158 rfl) ?_
  refine fo_static (by decide) (fo_call (fa_158 rfl) fNs_static fsm_157 (by decide) fFil_2 fna_157 fx_157 (by rw [fP_157]; rfl) fh_158 ?_)
  refine fo_istore_n (k := 3) (fa_158 rfl) ?_
  refine fo_iload_n (k := 2) (fa_158 rfl) ?_
  refine fo_iload_n (k := 0) (fa_158 rfl) ?_
  refine fo_iconst (fa_158 rfl) fk_c_1 ?_
  refine fo_isub (fa_158 rfl) ?_
  refine fo_icmp_ne (fa_158 rfl) (pcT := 26) rfl fs_158_26 ?_
  refine fo_iload_n (k := 1) (fa_158 rfl) ?_
  refine fo_iconst (fa_158 rfl) fk_c_2 ?_
  refine fo_irem (fa_158 rfl) ?_
  refine fo_if_ne (fa_158 rfl) (pcT := 24) rfl fs_158_24 ?_
  refine fo_iconst (fa_158 rfl) fk_c_1 ?_
  exact fo_goto (fa_158 rfl) (pcT := 25) rfl fs_158_25
theorem fsm_158 : fSM 158 3 fm_158 := fs_methH (lp := [0]) (by decide) rfl ⟨fs_158_0, trivial⟩
theorem fP_123 : mj_P 123 = (7, 4, (some .boolean), mcX7_isHome, []) := rfl
theorem fa_123 {pc : Nat} {e : mjE} (h : mj_at mcX7_isHome pc = some e) : fAt 123 pc e := by unfold fAt; rw [fP_123]; exact h
theorem fr_123 : (mj_P 123).2.2.1 = (some .boolean) := by rw [fP_123]
theorem fna_123 : (mj_P 123).2.1 = 4 := by rw [fP_123]
theorem fx_123 : 4 ≤ mj_mx.getD 123 0 := by decide
theorem fh_123 : (mj_P 123).2.2.2.2.isEmpty = true := by rw [fP_123]; rfl
theorem fs_123_0 : fSB 123 [0] 4 0 f_123_0 := by
  unfold f_123_0
  refine fo_iload_n (k := 1) (fa_123 rfl) ?_
  refine fo_iload_n (k := 2) (fa_123 rfl) ?_
  refine fo_iload_n (k := 3) (fa_123 rfl) ?_
  refine fo_static (by decide) (fo_call (fa_123 rfl) fNs_static fsm_156 (by decide) fFil_0 fna_156 fx_156 (by rw [fP_156]; rfl) fh_123 ?_)
  refine fo_iload_n (k := 1) (fa_123 rfl) ?_
  refine fo_iload_n (k := 2) (fa_123 rfl) ?_
  refine fo_iload_n (k := 3) (fa_123 rfl) ?_
  refine fo_static (by decide) (fo_call (fa_123 rfl) fNs_static fsm_158 (by decide) fFil_3 fna_158 fx_158 (by rw [fP_158]; rfl) fh_123 ?_)
  exact fo_iret (fa_123 rfl) fr_123 fw_bool
theorem fsm_123 : fSM 123 4 fm_123 := fs_methH (lp := [0]) (by decide) rfl ⟨fs_123_0, trivial⟩
theorem fP_124 : mj_P 124 = (7, 2, (some .int), mcX7_breaks, []) := rfl
theorem fa_124 {pc : Nat} {e : mjE} (h : mj_at mcX7_breaks pc = some e) : fAt 124 pc e := by unfold fAt; rw [fP_124]; exact h
theorem fr_124 : (mj_P 124).2.2.1 = (some .int) := by rw [fP_124]
theorem fna_124 : (mj_P 124).2.1 = 2 := by rw [fP_124]
theorem fx_124 : 2 ≤ mj_mx.getD 124 0 := by decide
theorem fh_124 : (mj_P 124).2.2.2.2.isEmpty = true := by rw [fP_124]; rfl
theorem fs_124_60 : fSB 124 [0, 10, 18] 4 60 f_124_60 := by
  unfold f_124_60
  refine fo_iload_n (k := 2) (fa_124 rfl) ?_
  exact fo_iret (fa_124 rfl) fr_124 fw_int
theorem fs_124_54 : fSB 124 [0, 10, 18] 4 54 f_124_54 := by
  unfold f_124_54
  refine fo_iinc (k := 3) (fa_124 rfl) fk_c_1 ?_
  exact fo_goto (fa_124 rfl) (pcT := 10) rfl (fo_back (q := 10) rfl)
theorem fs_124_48 : fSB 124 [0, 10, 18] 4 48 f_124_48 := by
  unfold f_124_48
  refine fo_iinc (k := 4) (fa_124 rfl) fk_c_1 ?_
  exact fo_goto (fa_124 rfl) (pcT := 18) rfl (fo_back (q := 18) rfl)
theorem fs_124_18 : fSB 124 [0, 10, 18] 4 18 f_124_18 := by
  unfold f_124_18
  refine fo_iload (k := 4) (fa_124 rfl) ?_
  refine fo_iload_n (k := 1) (fa_124 rfl) ?_
  refine fo_iconst (fa_124 rfl) fk_c_1 ?_
  refine fo_isub (fa_124 rfl) ?_
  refine fo_icmp_ge (fa_124 rfl) (pcT := 54) rfl fs_124_54 ?_
  refine fo_iload_n (k := 1) (fa_124 rfl) ?_
  refine fo_iload (k := 4) (fa_124 rfl) ?_
  refine fo_iload_n (k := 3) (fa_124 rfl) ?_
  refine fo_static (by decide) (fo_call (fa_124 rfl) fNs_static fsm_158 (by decide) fFil_3 fna_158 fx_158 (by rw [fP_158]; rfl) fh_124 ?_)
  refine fo_iload_n (k := 1) (fa_124 rfl) ?_
  refine fo_iload (k := 4) (fa_124 rfl) ?_
  refine fo_iconst (fa_124 rfl) fk_c_1 ?_
  refine fo_isub (fa_124 rfl) ?_
  refine fo_iload_n (k := 3) (fa_124 rfl) ?_
  refine fo_static (by decide) (fo_call (fa_124 rfl) fNs_static fsm_158 (by decide) fFil_3 fna_158 fx_158 (by rw [fP_158]; rfl) fh_124 ?_)
  refine fo_icmp_ne (fa_124 rfl) (pcT := 48) rfl fs_124_48 ?_
  refine fo_iinc (k := 2) (fa_124 rfl) fk_c_1 ?_
  exact fs_124_48
theorem fs_124_10 : fSB 124 [0, 10, 18] 4 10 f_124_10 := by
  unfold f_124_10
  refine fo_iload_n (k := 3) (fa_124 rfl) ?_
  refine fo_iload_n (k := 1) (fa_124 rfl) ?_
  refine fo_icmp_ge (fa_124 rfl) (pcT := 60) rfl fs_124_60 ?_
  refine fo_iconst (fa_124 rfl) fk_c_1 ?_
  refine fo_istore (k := 4) (fa_124 rfl) ?_
  exact fs_124_18
theorem fs_124_0 : fSB 124 [0, 10, 18] 4 0 f_124_0 := by
  unfold f_124_0
  refine fo_iload_n (k := 1) (fa_124 rfl) ?_
  refine fo_iconst (fa_124 rfl) fk_c_0 ?_
  refine fo_iconst (fa_124 rfl) fk_c_0 ?_
  refine fo_static (by decide) (fo_call (fa_124 rfl) fNs_static fsm_156 (by decide) fFil_0 fna_156 fx_156 (by rw [fP_156]; rfl) fh_124 ?_)
  refine fo_iconst (fa_124 rfl) fk_c_0 ?_
  refine fo_istore_n (k := 2) (fa_124 rfl) ?_
  refine fo_iconst (fa_124 rfl) fk_c_0 ?_
  refine fo_istore_n (k := 3) (fa_124 rfl) ?_
  exact fs_124_10
theorem fsm_124 : fSM 124 4 fm_124 := fs_methH (lp := [0, 10, 18]) (by decide) rfl ⟨fs_124_0, fs_124_10, fs_124_18, trivial⟩
theorem fP_125 : mj_P 125 = (7, 4, (some .int), mcX7_setting, []) := rfl
theorem fa_125 {pc : Nat} {e : mjE} (h : mj_at mcX7_setting pc = some e) : fAt 125 pc e := by unfold fAt; rw [fP_125]; exact h
theorem fr_125 : (mj_P 125).2.2.1 = (some .int) := by rw [fP_125]
theorem fna_125 : (mj_P 125).2.1 = 4 := by rw [fP_125]
theorem fx_125 : 4 ≤ mj_mx.getD 125 0 := by decide
theorem fh_125 : (mj_P 125).2.2.2.2.isEmpty = true := by rw [fP_125]; rfl
theorem fs_125_68 : fSB 125 [0] 3 68 f_125_68 := by
  unfold f_125_68
  exact fo_iret (fa_125 rfl) fr_125 fw_int
theorem fs_125_55 : fSB 125 [0] 3 55 f_125_55 := by
  unfold f_125_55
  refine fo_iload_n (k := 1) (fa_125 rfl) ?_
  refine fo_iload_n (k := 1) (fa_125 rfl) ?_
  refine fo_iload (k := 4) (fa_125 rfl) ?_
  refine fo_iload_n (k := 3) (fa_125 rfl) ?_
  refine fo_static (by decide) (fo_call (fa_125 rfl) fNs_static fsm_45 (by decide) fFil_2 fna_45 fx_45 (by rw [fP_45]; rfl) fh_125 ?_)
  refine fo_iload (k := 5) (fa_125 rfl) ?_
  refine fo_static (by decide) (fo_call (fa_125 rfl) fNs_static fsm_44 (by decide) fFil_0 fna_44 fx_44 (by rw [fP_44]; rfl) fh_125 ?_)
  exact fs_125_68
theorem fs_125_35 : fSB 125 [0] 3 35 f_125_35 := by
  unfold f_125_35
  refine fo_iload_n (k := 2) (fa_125 rfl) ?_
  refine fo_iload_n (k := 1) (fa_125 rfl) ?_
  refine fo_idiv (fa_125 rfl) ?_
  refine fo_istore (k := 4) (fa_125 rfl) ?_
  refine fo_iload_n (k := 2) (fa_125 rfl) ?_
  refine fo_iload_n (k := 1) (fa_125 rfl) ?_
  refine fo_irem (fa_125 rfl) ?_
  refine fo_istore (k := 5) (fa_125 rfl) ?_
  refine fo_iload_n (k := 3) (fa_125 rfl) ?_
  refine fo_iload_n (k := 1) (fa_125 rfl) ?_
  refine fo_icmp_ne (fa_125 rfl) (pcT := 55) rfl fs_125_55 ?_
  refine fo_iload (k := 4) (fa_125 rfl) ?_
  exact fo_goto (fa_125 rfl) (pcT := 68) rfl fs_125_68
theorem fs_125_27 : fSB 125 [0] 3 27 f_125_27 := by
  unfold f_125_27
  exact fo_throw (fa_125 rfl) fh_125
theorem fs_125_0 : fSB 125 [0] 3 0 f_125_0 := by
  unfold f_125_0
  refine fo_iload_n (k := 1) (fa_125 rfl) ?_
  refine fo_static (by decide) (fo_call (fa_125 rfl) fNs_static fsm_43 (by decide) fFil_0 fna_43 fx_43 (by rw [fP_43]; rfl) fh_125 ?_)
  refine fo_if_eq (fa_125 rfl) (pcT := 27) rfl fs_125_27 ?_
  refine fo_iload_n (k := 2) (fa_125 rfl) ?_
  refine fo_if_lt (fa_125 rfl) (pcT := 27) rfl fs_125_27 ?_
  refine fo_iload_n (k := 2) (fa_125 rfl) ?_
  refine fo_iload_n (k := 1) (fa_125 rfl) ?_
  refine fo_iload_n (k := 1) (fa_125 rfl) ?_
  refine fo_imul (fa_125 rfl) ?_
  refine fo_icmp_ge (fa_125 rfl) (pcT := 27) rfl fs_125_27 ?_
  refine fo_iload_n (k := 3) (fa_125 rfl) ?_
  refine fo_if_lt (fa_125 rfl) (pcT := 27) rfl fs_125_27 ?_
  refine fo_iload_n (k := 3) (fa_125 rfl) ?_
  refine fo_iload_n (k := 1) (fa_125 rfl) ?_
  refine fo_icmp_le (fa_125 rfl) (pcT := 35) rfl fs_125_35 ?_
  exact fs_125_27
theorem fsm_125 : fSM 125 3 fm_125 := fs_methH (lp := [0]) (by decide) rfl ⟨fs_125_0, trivial⟩
theorem fP_126 : mj_P 126 = (7, 4, (some .int), mcX7_unmet, []) := rfl
theorem fa_126 {pc : Nat} {e : mjE} (h : mj_at mcX7_unmet pc = some e) : fAt 126 pc e := by unfold fAt; rw [fP_126]; exact h
theorem fr_126 : (mj_P 126).2.2.1 = (some .int) := by rw [fP_126]
theorem fna_126 : (mj_P 126).2.1 = 4 := by rw [fP_126]
theorem fx_126 : 4 ≤ mj_mx.getD 126 0 := by decide
theorem fh_126 : (mj_P 126).2.2.2.2.isEmpty = true := by rw [fP_126]; rfl
theorem fs_126_38 : fSB 126 [0] 1 38 f_126_38 := by
  unfold f_126_38
  refine fo_iload_n (k := 2) (fa_126 rfl) ?_
  refine fo_iload_n (k := 2) (fa_126 rfl) ?_
  refine fo_iconst (fa_126 rfl) fk_c_1 ?_
  refine fo_isub (fa_126 rfl) ?_
  refine fo_imul (fa_126 rfl) ?_
  refine fo_iconst (fa_126 rfl) fk_c_2 ?_
  refine fo_idiv (fa_126 rfl) ?_
  refine fo_iload_n (k := 1) (fa_126 rfl) ?_
  refine fo_iload_n (k := 1) (fa_126 rfl) ?_
  refine fo_imul (fa_126 rfl) ?_
  refine fo_iload_n (k := 3) (fa_126 rfl) ?_
  refine fo_isub (fa_126 rfl) ?_
  refine fo_imul (fa_126 rfl) ?_
  exact fo_iret (fa_126 rfl) fr_126 fw_int
theorem fs_126_30 : fSB 126 [0] 1 30 f_126_30 := by
  unfold f_126_30
  exact fo_throw (fa_126 rfl) fh_126
theorem fs_126_0 : fSB 126 [0] 1 0 f_126_0 := by
  unfold f_126_0
  refine fo_iload_n (k := 1) (fa_126 rfl) ?_
  refine fo_static (by decide) (fo_call (fa_126 rfl) fNs_static fsm_43 (by decide) fFil_0 fna_43 fx_43 (by rw [fP_43]; rfl) fh_126 ?_)
  refine fo_if_eq (fa_126 rfl) (pcT := 30) rfl fs_126_30 ?_
  refine fo_iload_n (k := 2) (fa_126 rfl) ?_
  refine fo_iconst (fa_126 rfl) fk_c_2 ?_
  refine fo_icmp_lt (fa_126 rfl) (pcT := 30) rfl fs_126_30 ?_
  refine fo_iload_n (k := 2) (fa_126 rfl) ?_
  refine fo_iload_n (k := 1) (fa_126 rfl) ?_
  refine fo_iconst (fa_126 rfl) fk_c_1 ?_
  refine fo_iadd (fa_126 rfl) ?_
  refine fo_icmp_gt (fa_126 rfl) (pcT := 30) rfl fs_126_30 ?_
  refine fo_iload_n (k := 3) (fa_126 rfl) ?_
  refine fo_if_lt (fa_126 rfl) (pcT := 30) rfl fs_126_30 ?_
  refine fo_iload_n (k := 3) (fa_126 rfl) ?_
  refine fo_iload_n (k := 1) (fa_126 rfl) ?_
  refine fo_iload_n (k := 1) (fa_126 rfl) ?_
  refine fo_imul (fa_126 rfl) ?_
  refine fo_icmp_le (fa_126 rfl) (pcT := 38) rfl fs_126_38 ?_
  exact fs_126_30
theorem fsm_126 : fSM 126 1 fm_126 := fs_methH (lp := [0]) (by decide) rfl ⟨fs_126_0, trivial⟩
theorem fP_127 : mj_P 127 = (7, 2, (some .int), mcX7_type, []) := rfl
theorem fa_127 {pc : Nat} {e : mjE} (h : mj_at mcX7_type pc = some e) : fAt 127 pc e := by unfold fAt; rw [fP_127]; exact h
theorem fr_127 : (mj_P 127).2.2.1 = (some .int) := by rw [fP_127]
theorem fna_127 : (mj_P 127).2.1 = 2 := by rw [fP_127]
theorem fx_127 : 2 ≤ mj_mx.getD 127 0 := by decide
theorem fh_127 : (mj_P 127).2.2.2.2.isEmpty = true := by rw [fP_127]; rfl
theorem fs_127_44 : fSB 127 [0] 0 44 f_127_44 := by
  unfold f_127_44
  refine fo_aload_n (k := 0) (fa_127 rfl) ?_
  refine fo_getr (fa_127 rfl) (by decide) rfl ?_
  refine fo_aload_n (k := 0) (fa_127 rfl) ?_
  refine fo_geti (fa_127 rfl) (by decide) rfl ?_
  refine fo_iload_n (k := 1) (fa_127 rfl) ?_
  refine fo_castore (fa_127 rfl) ?_
  refine fo_aload_n (k := 0) (fa_127 rfl) ?_
  refine fo_dup (fa_127 rfl) ?_
  refine fo_geti (fa_127 rfl) (by decide) rfl ?_
  refine fo_iconst (fa_127 rfl) fk_c_1 ?_
  refine fo_iadd (fa_127 rfl) ?_
  refine fo_puti (fa_127 rfl) (by decide) rfl ?_
  refine fo_aload_n (k := 0) (fa_127 rfl) ?_
  refine fo_geti (fa_127 rfl) (by decide) rfl ?_
  exact fo_iret (fa_127 rfl) fr_127 fw_int
theorem fs_127_36 : fSB 127 [0] 0 36 f_127_36 := by
  unfold f_127_36
  exact fo_throw (fa_127 rfl) fh_127
theorem fs_127_20 : fSB 127 [0] 0 20 f_127_20 := by
  unfold f_127_20
  refine fo_aload_n (k := 0) (fa_127 rfl) ?_
  refine fo_geti (fa_127 rfl) (by decide) rfl ?_
  refine fo_if_lt (fa_127 rfl) (pcT := 36) rfl fs_127_36 ?_
  refine fo_aload_n (k := 0) (fa_127 rfl) ?_
  refine fo_geti (fa_127 rfl) (by decide) rfl ?_
  refine fo_bipush (fa_127 rfl) fk_b_120 ?_
  refine fo_icmp_lt (fa_127 rfl) (pcT := 44) rfl fs_127_44 ?_
  exact fs_127_36
theorem fs_127_12 : fSB 127 [0] 0 12 f_127_12 := by
  unfold f_127_12
  exact fo_throw (fa_127 rfl) fh_127
theorem fs_127_0 : fSB 127 [0] 0 0 f_127_0 := by
  unfold f_127_0
  refine fo_iload_n (k := 1) (fa_127 rfl) ?_
  refine fo_bipush (fa_127 rfl) fk_b_32 ?_
  refine fo_icmp_lt (fa_127 rfl) (pcT := 12) rfl fs_127_12 ?_
  refine fo_iload_n (k := 1) (fa_127 rfl) ?_
  refine fo_bipush (fa_127 rfl) fk_b_126 ?_
  refine fo_icmp_le (fa_127 rfl) (pcT := 20) rfl fs_127_20 ?_
  exact fs_127_12
theorem fsm_127 : fSM 127 0 fm_127 := fs_methH (lp := [0]) (by decide) rfl ⟨fs_127_0, trivial⟩
theorem fP_128 : mj_P 128 = (7, 1, (some .int), mcX7_erase, []) := rfl
theorem fa_128 {pc : Nat} {e : mjE} (h : mj_at mcX7_erase pc = some e) : fAt 128 pc e := by unfold fAt; rw [fP_128]; exact h
theorem fr_128 : (mj_P 128).2.2.1 = (some .int) := by rw [fP_128]
theorem fna_128 : (mj_P 128).2.1 = 1 := by rw [fP_128]
theorem fx_128 : 1 ≤ mj_mx.getD 128 0 := by decide
theorem fh_128 : (mj_P 128).2.2.2.2.isEmpty = true := by rw [fP_128]; rfl
theorem fs_128_0 : fSB 128 [0] 0 0 f_128_0 := by
  unfold f_128_0
  refine fo_aload_n (k := 0) (fa_128 rfl) ?_
  refine fo_geti (fa_128 rfl) (by decide) rfl ?_
  refine fo_istore_n (k := 1) (fa_128 rfl) ?_
  refine fo_aload_n (k := 0) (fa_128 rfl) ?_
  refine fo_iconst (fa_128 rfl) fk_c_0 ?_
  refine fo_puti (fa_128 rfl) (by decide) rfl ?_
  refine fo_iload_n (k := 1) (fa_128 rfl) ?_
  exact fo_iret (fa_128 rfl) fr_128 fw_int
theorem fsm_128 : fSM 128 0 fm_128 := fs_methH (lp := [0]) (by decide) rfl ⟨fs_128_0, trivial⟩
theorem fP_160 : mj_P 160 = (7, 3, (some .boolean), mcX7_canStand, []) := rfl
theorem fa_160 {pc : Nat} {e : mjE} (h : mj_at mcX7_canStand pc = some e) : fAt 160 pc e := by unfold fAt; rw [fP_160]; exact h
theorem fr_160 : (mj_P 160).2.2.1 = (some .boolean) := by rw [fP_160]
theorem fna_160 : (mj_P 160).2.1 = 3 := by rw [fP_160]
theorem fx_160 : 3 ≤ mj_mx.getD 160 0 := by decide
theorem fh_160 : (mj_P 160).2.2.2.2.isEmpty = true := by rw [fP_160]; rfl
theorem fs_160_39 : fSB 160 [0] 1 39 f_160_39 := by
  unfold f_160_39
  exact fo_iret (fa_160 rfl) fr_160 fw_bool
theorem fs_160_38 : fSB 160 [0] 1 38 f_160_38 := by
  unfold f_160_38
  refine fo_iconst (fa_160 rfl) fk_c_0 ?_
  exact fs_160_39
theorem fs_160_21 : fSB 160 [0] 1 21 f_160_21 := by
  unfold f_160_21
  refine fo_iload_n (k := 2) (fa_160 rfl) ?_
  refine fo_iload_n (k := 0) (fa_160 rfl) ?_
  refine fo_icmp_ge (fa_160 rfl) (pcT := 38) rfl fs_160_38 ?_
  refine fo_iload_n (k := 1) (fa_160 rfl) ?_
  refine fo_iload_n (k := 2) (fa_160 rfl) ?_
  refine fo_static (by decide) (fo_call (fa_160 rfl) fNs_static fsm_166 (by decide) fFil_0 fna_166 fx_166 (by rw [fP_166]; rfl) fh_160 ?_)
  refine fo_if_ne (fa_160 rfl) (pcT := 38) rfl fs_160_38 ?_
  refine fo_iconst (fa_160 rfl) fk_c_1 ?_
  exact fo_goto (fa_160 rfl) (pcT := 39) rfl fs_160_39
theorem fs_160_20 : fSB 160 [0] 1 20 f_160_20 := by
  unfold f_160_20
  exact fo_iret (fa_160 rfl) fr_160 fw_bool
theorem fs_160_19 : fSB 160 [0] 1 19 f_160_19 := by
  unfold f_160_19
  refine fo_iconst (fa_160 rfl) fk_c_0 ?_
  exact fs_160_20
theorem fs_160_0 : fSB 160 [0] 1 0 f_160_0 := by
  unfold f_160_0
  refine fo_iload_n (k := 0) (fa_160 rfl) ?_
  refine fo_if_ne (fa_160 rfl) (pcT := 21) rfl fs_160_21 ?_
  refine fo_iload_n (k := 2) (fa_160 rfl) ?_
  refine fo_iconst (fa_160 rfl) fk_c_1 ?_
  refine fo_icmp_lt (fa_160 rfl) (pcT := 19) rfl fs_160_19 ?_
  refine fo_iload_n (k := 2) (fa_160 rfl) ?_
  refine fo_bipush (fa_160 rfl) fk_b_31 ?_
  refine fo_icmp_gt (fa_160 rfl) (pcT := 19) rfl fs_160_19 ?_
  refine fo_iconst (fa_160 rfl) fk_c_1 ?_
  exact fo_goto (fa_160 rfl) (pcT := 20) rfl fs_160_20
theorem fsm_160 : fSM 160 1 fm_160 := fs_methH (lp := [0]) (by decide) rfl ⟨fs_160_0, trivial⟩
theorem fP_161 : mj_P 161 = (7, 2, (some .char), mcX7_signOfText, []) := rfl
theorem fa_161 {pc : Nat} {e : mjE} (h : mj_at mcX7_signOfText pc = some e) : fAt 161 pc e := by unfold fAt; rw [fP_161]; exact h
theorem fr_161 : (mj_P 161).2.2.1 = (some .char) := by rw [fP_161]
theorem fna_161 : (mj_P 161).2.1 = 2 := by rw [fP_161]
theorem fx_161 : 2 ≤ mj_mx.getD 161 0 := by decide
theorem fh_161 : (mj_P 161).2.2.2.2.isEmpty = true := by rw [fP_161]; rfl
theorem fs_161_28 : fSB 161 [0] 0 28 f_161_28 := by
  unfold f_161_28
  exact fo_iret (fa_161 rfl) fr_161 fw_char
theorem fs_161_22 : fSB 161 [0] 0 22 f_161_22 := by
  unfold f_161_22
  refine fo_aload_n (k := 0) (fa_161 rfl) ?_
  refine fo_getr (fa_161 rfl) (by decide) rfl ?_
  refine fo_iload_n (k := 1) (fa_161 rfl) ?_
  refine fo_caload (fa_161 rfl) ?_
  exact fs_161_28
theorem fs_161_18 : fSB 161 [0] 0 18 f_161_18 := by
  unfold f_161_18
  refine fo_iconst (fa_161 rfl) fk_c_0 ?_
  exact fo_goto (fa_161 rfl) (pcT := 28) rfl fs_161_28
theorem fs_161_0 : fSB 161 [0] 0 0 f_161_0 := by
  unfold f_161_0
  refine fo_iload_n (k := 1) (fa_161 rfl) ?_
  refine fo_if_lt (fa_161 rfl) (pcT := 18) rfl fs_161_18 ?_
  refine fo_iload_n (k := 1) (fa_161 rfl) ?_
  refine fo_aload_n (k := 0) (fa_161 rfl) ?_
  refine fo_geti (fa_161 rfl) (by decide) rfl ?_
  refine fo_icmp_ge (fa_161 rfl) (pcT := 18) rfl fs_161_18 ?_
  refine fo_iload_n (k := 1) (fa_161 rfl) ?_
  refine fo_bipush (fa_161 rfl) fk_b_120 ?_
  refine fo_icmp_lt (fa_161 rfl) (pcT := 22) rfl fs_161_22 ?_
  exact fs_161_18
theorem fsm_161 : fSM 161 0 fm_161 := fs_methH (lp := [0]) (by decide) rfl ⟨fs_161_0, trivial⟩
theorem fP_162 : mj_P 162 = (7, 2, (some .int), mcX7_endOfDigits, []) := rfl
theorem fa_162 {pc : Nat} {e : mjE} (h : mj_at mcX7_endOfDigits pc = some e) : fAt 162 pc e := by unfold fAt; rw [fP_162]; exact h
theorem fr_162 : (mj_P 162).2.2.1 = (some .int) := by rw [fP_162]
theorem fna_162 : (mj_P 162).2.1 = 2 := by rw [fP_162]
theorem fx_162 : 2 ≤ mj_mx.getD 162 0 := by decide
theorem fh_162 : (mj_P 162).2.2.2.2.isEmpty = true := by rw [fP_162]; rfl
theorem fs_162_36 : fSB 162 [0, 2] 1 36 f_162_36 := by
  unfold f_162_36
  refine fo_iload_n (k := 2) (fa_162 rfl) ?_
  exact fo_iret (fa_162 rfl) fr_162 fw_int
theorem fs_162_2 : fSB 162 [0, 2] 1 2 f_162_2 := by
  unfold f_162_2
  refine fo_iload_n (k := 2) (fa_162 rfl) ?_
  refine fo_aload_n (k := 0) (fa_162 rfl) ?_
  refine fo_geti (fa_162 rfl) (by decide) rfl ?_
  refine fo_icmp_ge (fa_162 rfl) (pcT := 36) rfl fs_162_36 ?_
  refine fo_aload_n (k := 0) (fa_162 rfl) ?_
  refine fo_iload_n (k := 2) (fa_162 rfl) ?_
  refine fo_virtual (by decide) fna_161 (fo_call (fa_162 rfl) fNs_virtual fsm_161 (by decide) fFil_0 fna_161 fx_161 (by rw [fP_161]; rfl) fh_162 ?_)
  refine fo_bipush (fa_162 rfl) fk_b_48 ?_
  refine fo_icmp_lt (fa_162 rfl) (pcT := 36) rfl fs_162_36 ?_
  refine fo_aload_n (k := 0) (fa_162 rfl) ?_
  refine fo_iload_n (k := 2) (fa_162 rfl) ?_
  refine fo_virtual (by decide) fna_161 (fo_call (fa_162 rfl) fNs_virtual fsm_161 (by decide) fFil_0 fna_161 fx_161 (by rw [fP_161]; rfl) fh_162 ?_)
  refine fo_bipush (fa_162 rfl) fk_b_57 ?_
  refine fo_icmp_gt (fa_162 rfl) (pcT := 36) rfl fs_162_36 ?_
  refine fo_iinc (k := 2) (fa_162 rfl) fk_c_1 ?_
  exact fo_goto (fa_162 rfl) (pcT := 2) rfl (fo_back (q := 2) rfl)
theorem fs_162_0 : fSB 162 [0, 2] 1 0 f_162_0 := by
  unfold f_162_0
  refine fo_iload_n (k := 1) (fa_162 rfl) ?_
  refine fo_istore_n (k := 2) (fa_162 rfl) ?_
  exact fs_162_2
theorem fsm_162 : fSM 162 1 fm_162 := fs_methH (lp := [0, 2]) (by decide) rfl ⟨fs_162_0, fs_162_2, trivial⟩
theorem fP_163 : mj_P 163 = (7, 3, (some .int), mcX7_numberAt, []) := rfl
theorem fa_163 {pc : Nat} {e : mjE} (h : mj_at mcX7_numberAt pc = some e) : fAt 163 pc e := by unfold fAt; rw [fP_163]; exact h
theorem fr_163 : (mj_P 163).2.2.1 = (some .int) := by rw [fP_163]
theorem fna_163 : (mj_P 163).2.1 = 3 := by rw [fP_163]
theorem fx_163 : 3 ≤ mj_mx.getD 163 0 := by decide
theorem fh_163 : (mj_P 163).2.2.2.2.isEmpty = true := by rw [fP_163]; rfl
theorem fs_163_37 : fSB 163 [0, 5] 1 37 f_163_37 := by
  unfold f_163_37
  refine fo_iload_n (k := 3) (fa_163 rfl) ?_
  exact fo_iret (fa_163 rfl) fr_163 fw_int
theorem fs_163_5 : fSB 163 [0, 5] 1 5 f_163_5 := by
  unfold f_163_5
  refine fo_iload (k := 4) (fa_163 rfl) ?_
  refine fo_iload_n (k := 2) (fa_163 rfl) ?_
  refine fo_icmp_ge (fa_163 rfl) (pcT := 37) rfl fs_163_37 ?_
  refine fo_bipush (fa_163 rfl) fk_b_10 ?_
  refine fo_iload_n (k := 3) (fa_163 rfl) ?_
  refine fo_imul (fa_163 rfl) ?_
  refine fo_aload_n (k := 0) (fa_163 rfl) ?_
  refine fo_iload (k := 4) (fa_163 rfl) ?_
  refine fo_virtual (by decide) fna_161 (fo_call (fa_163 rfl) fNs_virtual fsm_161 (by decide) fFil_0 fna_161 fx_161 (by rw [fP_161]; rfl) fh_163 ?_)
  refine fo_bipush (fa_163 rfl) fk_b_48 ?_
  refine fo_isub (fa_163 rfl) ?_
  refine fo_iadd (fa_163 rfl) ?_
  refine fo_bipush (fa_163 rfl) fk_b_32 ?_
  refine fo_static (by decide) (fo_call (fa_163 rfl) fNs_static fsm_276 (by decide) fFil_0 fna_276 fx_276 (by rw [fP_276]; rfl) fh_163 ?_)
  refine fo_istore_n (k := 3) (fa_163 rfl) ?_
  refine fo_iinc (k := 4) (fa_163 rfl) fk_c_1 ?_
  exact fo_goto (fa_163 rfl) (pcT := 5) rfl (fo_back (q := 5) rfl)
theorem fs_163_0 : fSB 163 [0, 5] 1 0 f_163_0 := by
  unfold f_163_0
  refine fo_iconst (fa_163 rfl) fk_c_0 ?_
  refine fo_istore_n (k := 3) (fa_163 rfl) ?_
  refine fo_iload_n (k := 1) (fa_163 rfl) ?_
  refine fo_istore (k := 4) (fa_163 rfl) ?_
  exact fs_163_5
theorem fsm_163 : fSM 163 1 fm_163 := fs_methH (lp := [0, 5]) (by decide) rfl ⟨fs_163_0, fs_163_5, trivial⟩
theorem fP_159 : mj_P 159 = (7, 2, (some .int), mcX7_faultOfText, []) := rfl
theorem fa_159 {pc : Nat} {e : mjE} (h : mj_at mcX7_faultOfText pc = some e) : fAt 159 pc e := by unfold fAt; rw [fP_159]; exact h
theorem fr_159 : (mj_P 159).2.2.1 = (some .int) := by rw [fP_159]
theorem fna_159 : (mj_P 159).2.1 = 2 := by rw [fP_159]
theorem fx_159 : 2 ≤ mj_mx.getD 159 0 := by decide
theorem fh_159 : (mj_P 159).2.2.2.2.isEmpty = true := by rw [fP_159]; rfl
theorem fs_159_169 : fSB 159 [0, 12] 2 169 f_159_169 := by
  unfold f_159_169
  refine fo_iload_n (k := 2) (fa_159 rfl) ?_
  exact fo_iret (fa_159 rfl) fr_159 fw_int
theorem fs_159_158 : fSB 159 [0, 12] 2 158 f_159_158 := by
  unfold f_159_158
  refine fo_iload (k := 5) (fa_159 rfl) ?_
  refine fo_iconst (fa_159 rfl) fk_c_1 ?_
  refine fo_iadd (fa_159 rfl) ?_
  refine fo_istore_n (k := 2) (fa_159 rfl) ?_
  refine fo_iinc (k := 4) (fa_159 rfl) fk_c_1 ?_
  exact fo_goto (fa_159 rfl) (pcT := 12) rfl (fo_back (q := 12) rfl)
theorem fs_159_151 : fSB 159 [0, 12] 2 151 f_159_151 := by
  unfold f_159_151
  refine fo_iload (k := 8) (fa_159 rfl) ?_
  refine fo_if_ne (fa_159 rfl) (pcT := 158) rfl fs_159_158 ?_
  refine fo_iconst (fa_159 rfl) fk_c_m1 ?_
  exact fo_iret (fa_159 rfl) fr_159 fw_int
theorem fs_159_145 : fSB 159 [0, 12] 2 145 f_159_145 := by
  unfold f_159_145
  refine fo_icmp_eq (fa_159 rfl) (pcT := 151) rfl fs_159_151 ?_
  refine fo_iload (k := 5) (fa_159 rfl) ?_
  exact fo_iret (fa_159 rfl) fr_159 fw_int
theorem fs_159_143 : fSB 159 [0, 12] 2 143 f_159_143 := by
  unfold f_159_143
  refine fo_bipush (fa_159 rfl) fk_b_44 ?_
  exact fs_159_145
theorem fs_159_126 : fSB 159 [0, 12] 2 126 f_159_126 := by
  unfold f_159_126
  refine fo_iload (k := 8) (fa_159 rfl) ?_
  refine fo_if_eq (fa_159 rfl) (pcT := 151) rfl fs_159_151 ?_
  refine fo_iload (k := 8) (fa_159 rfl) ?_
  refine fo_iload (k := 7) (fa_159 rfl) ?_
  refine fo_if_eq (fa_159 rfl) (pcT := 143) rfl fs_159_143 ?_
  refine fo_bipush (fa_159 rfl) fk_b_58 ?_
  exact fo_goto (fa_159 rfl) (pcT := 145) rfl fs_159_145
theorem fs_159_116 : fSB 159 [0, 12] 2 116 f_159_116 := by
  unfold f_159_116
  refine fo_aload_n (k := 1) (fa_159 rfl) ?_
  refine fo_iload_n (k := 3) (fa_159 rfl) ?_
  refine fo_virtual (by decide) fna_14 (fo_call (fa_159 rfl) fNs_virtual fsm_14 (by decide) fFil_0 fna_14 fx_14 (by rw [fP_14]; rfl) fh_159 ?_)
  refine fo_iconst (fa_159 rfl) fk_c_0 ?_
  refine fo_istore_n (k := 3) (fa_159 rfl) ?_
  exact fo_goto (fa_159 rfl) (pcT := 151) rfl fs_159_151
theorem fs_159_91 : fSB 159 [0, 12] 2 91 f_159_91 := by
  unfold f_159_91
  refine fo_aload_n (k := 0) (fa_159 rfl) ?_
  refine fo_iload (k := 5) (fa_159 rfl) ?_
  refine fo_virtual (by decide) fna_161 (fo_call (fa_159 rfl) fNs_virtual fsm_161 (by decide) fFil_0 fna_161 fx_161 (by rw [fP_161]; rfl) fh_159 ?_)
  refine fo_istore (k := 8) (fa_159 rfl) ?_
  refine fo_iload (k := 7) (fa_159 rfl) ?_
  refine fo_if_ne (fa_159 rfl) (pcT := 126) rfl fs_159_126 ?_
  refine fo_iload (k := 8) (fa_159 rfl) ?_
  refine fo_if_eq (fa_159 rfl) (pcT := 116) rfl fs_159_116 ?_
  refine fo_iload (k := 8) (fa_159 rfl) ?_
  refine fo_bipush (fa_159 rfl) fk_b_59 ?_
  refine fo_icmp_ne (fa_159 rfl) (pcT := 126) rfl fs_159_126 ?_
  exact fs_159_116
theorem fs_159_84 : fSB 159 [0, 12] 2 84 f_159_84 := by
  unfold f_159_84
  refine fo_iload_n (k := 3) (fa_159 rfl) ?_
  refine fo_iconst (fa_159 rfl) fk_c_1 ?_
  refine fo_iload (k := 6) (fa_159 rfl) ?_
  refine fo_ishl (fa_159 rfl) ?_
  refine fo_ior (fa_159 rfl) ?_
  refine fo_istore_n (k := 3) (fa_159 rfl) ?_
  exact fs_159_91
theorem fs_159_68 : fSB 159 [0, 12] 2 68 f_159_68 := by
  unfold f_159_68
  refine fo_istore (k := 7) (fa_159 rfl) ?_
  refine fo_iload (k := 7) (fa_159 rfl) ?_
  refine fo_if_eq (fa_159 rfl) (pcT := 84) rfl fs_159_84 ?_
  refine fo_aload_n (k := 1) (fa_159 rfl) ?_
  refine fo_iload (k := 6) (fa_159 rfl) ?_
  refine fo_virtual (by decide) fna_13 (fo_call (fa_159 rfl) fNs_virtual fsm_13 (by decide) fFil_0 fna_13 fx_13 (by rw [fP_13]; rfl) fh_159 ?_)
  exact fo_goto (fa_159 rfl) (pcT := 91) rfl fs_159_91
theorem fs_159_67 : fSB 159 [0, 12] 2 67 f_159_67 := by
  unfold f_159_67
  refine fo_iconst (fa_159 rfl) fk_c_0 ?_
  exact fs_159_68
theorem fs_159_56 : fSB 159 [0, 12] 2 56 f_159_56 := by
  unfold f_159_56
  refine fo_aload_n (k := 1) (fa_159 rfl) ?_
  refine fo_geti (fa_159 rfl) (by decide) rfl ?_
  refine fo_if_ne (fa_159 rfl) (pcT := 67) rfl fs_159_67 ?_
  refine fo_iconst (fa_159 rfl) fk_c_1 ?_
  exact fo_goto (fa_159 rfl) (pcT := 68) rfl fs_159_68
theorem fs_159_54 : fSB 159 [0, 12] 2 54 f_159_54 := by
  unfold f_159_54
  refine fo_iload_n (k := 2) (fa_159 rfl) ?_
  exact fo_iret (fa_159 rfl) fr_159 fw_int
theorem fs_159_12 : fSB 159 [0, 12] 2 12 f_159_12 := by
  unfold f_159_12
  refine fo_iload (k := 4) (fa_159 rfl) ?_
  refine fo_bipush (fa_159 rfl) fk_b_120 ?_
  refine fo_icmp_gt (fa_159 rfl) (pcT := 169) rfl fs_159_169 ?_
  refine fo_aload_n (k := 0) (fa_159 rfl) ?_
  refine fo_iload_n (k := 2) (fa_159 rfl) ?_
  refine fo_virtual (by decide) fna_162 (fo_call (fa_159 rfl) fNs_virtual fsm_162 (by decide) fFil_1 fna_162 fx_162 (by rw [fP_162]; rfl) fh_159 ?_)
  refine fo_istore (k := 5) (fa_159 rfl) ?_
  refine fo_aload_n (k := 0) (fa_159 rfl) ?_
  refine fo_iload_n (k := 2) (fa_159 rfl) ?_
  refine fo_iload (k := 5) (fa_159 rfl) ?_
  refine fo_virtual (by decide) fna_163 (fo_call (fa_159 rfl) fNs_virtual fsm_163 (by decide) fFil_2 fna_163 fx_163 (by rw [fP_163]; rfl) fh_159 ?_)
  refine fo_istore (k := 6) (fa_159 rfl) ?_
  refine fo_iload (k := 5) (fa_159 rfl) ?_
  refine fo_iload_n (k := 2) (fa_159 rfl) ?_
  refine fo_icmp_eq (fa_159 rfl) (pcT := 54) rfl fs_159_54 ?_
  refine fo_aload_n (k := 1) (fa_159 rfl) ?_
  refine fo_geti (fa_159 rfl) (by decide) rfl ?_
  refine fo_iload_n (k := 3) (fa_159 rfl) ?_
  refine fo_iload (k := 6) (fa_159 rfl) ?_
  refine fo_static (by decide) (fo_call (fa_159 rfl) fNs_static fsm_160 (by decide) fFil_0 fna_160 fx_160 (by rw [fP_160]; rfl) fh_159 ?_)
  refine fo_if_ne (fa_159 rfl) (pcT := 56) rfl fs_159_56 ?_
  exact fs_159_54
theorem fs_159_0 : fSB 159 [0, 12] 2 0 f_159_0 := by
  unfold f_159_0
  refine fo_aload_n (k := 1) (fa_159 rfl) ?_
  refine fo_iconst (fa_159 rfl) fk_c_0 ?_
  refine fo_virtual (by decide) fna_13 (fo_call (fa_159 rfl) fNs_virtual fsm_13 (by decide) fFil_0 fna_13 fx_13 (by rw [fP_13]; rfl) fh_159 ?_)
  refine fo_iconst (fa_159 rfl) fk_c_0 ?_
  refine fo_istore_n (k := 2) (fa_159 rfl) ?_
  refine fo_iconst (fa_159 rfl) fk_c_0 ?_
  refine fo_istore_n (k := 3) (fa_159 rfl) ?_
  refine fo_iconst (fa_159 rfl) fk_c_0 ?_
  refine fo_istore (k := 4) (fa_159 rfl) ?_
  exact fs_159_12
theorem fsm_159 : fSM 159 2 fm_159 := fs_methH (lp := [0, 12]) (by decide) rfl ⟨fs_159_0, fs_159_12, trivial⟩
theorem fP_129 : mj_P 129 = (7, 2, (some .int), mcX7_read, []) := rfl
theorem fa_129 {pc : Nat} {e : mjE} (h : mj_at mcX7_read pc = some e) : fAt 129 pc e := by unfold fAt; rw [fP_129]; exact h
theorem fr_129 : (mj_P 129).2.2.1 = (some .int) := by rw [fP_129]
theorem fna_129 : (mj_P 129).2.1 = 2 := by rw [fP_129]
theorem fx_129 : 2 ≤ mj_mx.getD 129 0 := by decide
theorem fh_129 : (mj_P 129).2.2.2.2.isEmpty = true := by rw [fP_129]; rfl
theorem fs_129_33 : fSB 129 [0] 3 33 f_129_33 := by
  unfold f_129_33
  exact fo_iret (fa_129 rfl) fr_129 fw_int
theorem fs_129_28 : fSB 129 [0] 3 28 f_129_28 := by
  unfold f_129_28
  refine fo_aload_n (k := 0) (fa_129 rfl) ?_
  refine fo_iload_n (k := 1) (fa_129 rfl) ?_
  refine fo_virtual (by decide) fna_143 (fo_call (fa_129 rfl) fNs_virtual fsm_143 (by decide) fFil_0 fna_143 fx_143 (by rw [fP_143]; rfl) fh_129 ?_)
  exact fs_129_33
theorem fs_129_0 : fSB 129 [0] 3 0 f_129_0 := by
  unfold f_129_0
  refine fo_iload_n (k := 1) (fa_129 rfl) ?_
  refine fo_static (by decide) (fo_call (fa_129 rfl) fNs_static fsm_135 (by decide) fFil_0 fna_135 fx_135 (by rw [fP_135]; rfl) fh_129 ?_)
  refine fo_aload_n (k := 0) (fa_129 rfl) ?_
  refine fo_aload_n (k := 0) (fa_129 rfl) ?_
  refine fo_getr (fa_129 rfl) (by decide) rfl ?_
  refine fo_virtual (by decide) fna_159 (fo_call (fa_129 rfl) fNs_virtual fsm_159 (by decide) fFil_7 fna_159 fx_159 (by rw [fP_159]; rfl) fh_129 ?_)
  refine fo_istore_n (k := 2) (fa_129 rfl) ?_
  refine fo_aload_n (k := 0) (fa_129 rfl) ?_
  refine fo_iconst (fa_129 rfl) fk_c_0 ?_
  refine fo_puti (fa_129 rfl) (by decide) rfl ?_
  refine fo_iload_n (k := 2) (fa_129 rfl) ?_
  refine fo_if_lt (fa_129 rfl) (pcT := 28) rfl fs_129_28 ?_
  refine fo_iconst (fa_129 rfl) fk_c_m1 ?_
  refine fo_iload_n (k := 2) (fa_129 rfl) ?_
  refine fo_isub (fa_129 rfl) ?_
  exact fo_goto (fa_129 rfl) (pcT := 33) rfl fs_129_33
theorem fsm_129 : fSM 129 3 fm_129 := fs_methH (lp := [0]) (by decide) rfl ⟨fs_129_0, trivial⟩
theorem fP_130 : mj_P 130 = (7, 1, (some .int), mcX7_undo, []) := rfl
theorem fa_130 {pc : Nat} {e : mjE} (h : mj_at mcX7_undo pc = some e) : fAt 130 pc e := by unfold fAt; rw [fP_130]; exact h
theorem fr_130 : (mj_P 130).2.2.1 = (some .int) := by rw [fP_130]
theorem fna_130 : (mj_P 130).2.1 = 1 := by rw [fP_130]
theorem fx_130 : 1 ≤ mj_mx.getD 130 0 := by decide
theorem fh_130 : (mj_P 130).2.2.2.2.isEmpty = true := by rw [fP_130]; rfl
theorem fs_130_120 : fSB 130 [0] 1 120 f_130_120 := by
  unfold f_130_120
  refine fo_aload_n (k := 0) (fa_130 rfl) ?_
  refine fo_geti (fa_130 rfl) (by decide) rfl ?_
  exact fo_iret (fa_130 rfl) fr_130 fw_int
theorem fs_130_104 : fSB 130 [0] 1 104 f_130_104 := by
  unfold f_130_104
  refine fo_aload_n (k := 0) (fa_130 rfl) ?_
  refine fo_getr (fa_130 rfl) (by decide) rfl ?_
  refine fo_aload_n (k := 1) (fa_130 rfl) ?_
  refine fo_geti (fa_130 rfl) (by decide) rfl ?_
  refine fo_aaload (fa_130 rfl) (by decide) (by decide) ?_
  refine fo_aload_n (k := 1) (fa_130 rfl) ?_
  refine fo_getr (fa_130 rfl) (by decide) rfl ?_
  refine fo_virtual (by decide) fna_52 (fo_call (fa_130 rfl) fNs_virtual fsm_52 (by decide) fFil_0 fna_52 fx_52 (by rw [fP_52]; rfl) fh_130 ?_)
  exact fs_130_120
theorem fs_130_77 : fSB 130 [0] 1 77 f_130_77 := by
  unfold f_130_77
  refine fo_aload_n (k := 1) (fa_130 rfl) ?_
  refine fo_geti (fa_130 rfl) (by decide) rfl ?_
  refine fo_iconst (fa_130 rfl) fk_c_1 ?_
  refine fo_icmp_ne (fa_130 rfl) (pcT := 104) rfl fs_130_104 ?_
  refine fo_aload_n (k := 0) (fa_130 rfl) ?_
  refine fo_getr (fa_130 rfl) (by decide) rfl ?_
  refine fo_aload_n (k := 1) (fa_130 rfl) ?_
  refine fo_geti (fa_130 rfl) (by decide) rfl ?_
  refine fo_aaload (fa_130 rfl) (by decide) (by decide) ?_
  refine fo_aload_n (k := 1) (fa_130 rfl) ?_
  refine fo_getr (fa_130 rfl) (by decide) rfl ?_
  refine fo_virtual (by decide) fna_64 (fo_call (fa_130 rfl) fNs_virtual fsm_64 (by decide) fFil_0 fna_64 fx_64 (by rw [fP_64]; rfl) fh_130 ?_)
  exact fo_goto (fa_130 rfl) (pcT := 120) rfl fs_130_120
theorem fs_130_16 : fSB 130 [0] 1 16 f_130_16 := by
  unfold f_130_16
  refine fo_aload_n (k := 0) (fa_130 rfl) ?_
  refine fo_dup (fa_130 rfl) ?_
  refine fo_geti (fa_130 rfl) (by decide) rfl ?_
  refine fo_iconst (fa_130 rfl) fk_c_1 ?_
  refine fo_isub (fa_130 rfl) ?_
  refine fo_puti (fa_130 rfl) (by decide) rfl ?_
  refine fo_aload_n (k := 0) (fa_130 rfl) ?_
  refine fo_dup (fa_130 rfl) ?_
  refine fo_geti (fa_130 rfl) (by decide) rfl ?_
  refine fo_iconst (fa_130 rfl) fk_c_1 ?_
  refine fo_isub (fa_130 rfl) ?_
  refine fo_puti (fa_130 rfl) (by decide) rfl ?_
  refine fo_aload_n (k := 0) (fa_130 rfl) ?_
  refine fo_getr (fa_130 rfl) (by decide) rfl ?_
  refine fo_aload_n (k := 0) (fa_130 rfl) ?_
  refine fo_geti (fa_130 rfl) (by decide) rfl ?_
  refine fo_bipush (fa_130 rfl) fk_b_8 ?_
  refine fo_static (by decide) (fo_call (fa_130 rfl) fNs_static fsm_274 (by decide) fFil_1 fna_274 fx_274 (by rw [fP_274]; rfl) fh_130 ?_)
  refine fo_aaload (fa_130 rfl) (by decide) (by decide) ?_
  refine fo_astore_n (k := 1) (fa_130 rfl) ?_
  refine fo_aload_n (k := 1) (fa_130 rfl) ?_
  refine fo_geti (fa_130 rfl) (by decide) rfl ?_
  refine fo_if_ne (fa_130 rfl) (pcT := 77) rfl fs_130_77 ?_
  refine fo_aload_n (k := 0) (fa_130 rfl) ?_
  refine fo_getr (fa_130 rfl) (by decide) rfl ?_
  refine fo_aload_n (k := 1) (fa_130 rfl) ?_
  refine fo_geti (fa_130 rfl) (by decide) rfl ?_
  refine fo_aaload (fa_130 rfl) (by decide) (by decide) ?_
  refine fo_aload_n (k := 1) (fa_130 rfl) ?_
  refine fo_getr (fa_130 rfl) (by decide) rfl ?_
  refine fo_virtual (by decide) fna_16 (fo_call (fa_130 rfl) fNs_virtual fsm_16 (by decide) fFil_0 fna_16 fx_16 (by rw [fP_16]; rfl) fh_130 ?_)
  exact fo_goto (fa_130 rfl) (pcT := 120) rfl fs_130_120
theorem fs_130_0 : fSB 130 [0] 1 0 f_130_0 := by
  unfold f_130_0
  refine fo_aload_n (k := 0) (fa_130 rfl) ?_
  refine fo_geti (fa_130 rfl) (by decide) rfl ?_
  refine fo_iconst (fa_130 rfl) fk_c_1 ?_
  refine fo_icmp_ge (fa_130 rfl) (pcT := 16) rfl fs_130_16 ?_
  exact fo_throw (fa_130 rfl) fh_130
theorem fsm_130 : fSM 130 1 fm_130 := fs_methH (lp := [0]) (by decide) rfl ⟨fs_130_0, trivial⟩
theorem fP_131 : mj_P 131 = (7, 2, (some .double), mcX7_meanSize, []) := rfl
theorem fa_131 {pc : Nat} {e : mjE} (h : mj_at mcX7_meanSize pc = some e) : fAt 131 pc e := by unfold fAt; rw [fP_131]; exact h
theorem fr_131 : (mj_P 131).2.2.1 = (some .double) := by rw [fP_131]
theorem fna_131 : (mj_P 131).2.1 = 2 := by rw [fP_131]
theorem fx_131 : 2 ≤ mj_mx.getD 131 0 := by decide
theorem fh_131 : (mj_P 131).2.2.2.2.isEmpty = true := by rw [fP_131]; rfl
theorem fs_131_22 : fSB 131 [0] 2 22 f_131_22 := by
  unfold f_131_22
  refine fo_aload_n (k := 2) (fa_131 rfl) ?_
  refine fo_virtual (by decide) fna_21 (fo_call (fa_131 rfl) fNs_virtual fsm_21 (by decide) fFil_2 fna_21 fx_21 (by rw [fP_21]; rfl) fh_131 ?_)
  exact fo_bad
theorem fs_131_0 : fSB 131 [0] 2 0 f_131_0 := by
  unfold f_131_0
  refine fo_aload_n (k := 0) (fa_131 rfl) ?_
  refine fo_iload_n (k := 1) (fa_131 rfl) ?_
  refine fo_virtual (by decide) fna_138 (fo_call (fa_131 rfl) fNs_virtual fsm_138 (by decide) fFil_1 fna_138 fx_138 (by rw [fP_138]; rfl) fh_131 ?_)
  refine fo_astore_n (k := 2) (fa_131 rfl) ?_
  refine fo_aload_n (k := 2) (fa_131 rfl) ?_
  refine fo_geti (fa_131 rfl) (by decide) rfl ?_
  refine fo_iconst (fa_131 rfl) fk_c_1 ?_
  refine fo_icmp_ge (fa_131 rfl) (pcT := 22) rfl fs_131_22 ?_
  exact fo_throw (fa_131 rfl) fh_131
theorem fsm_131 : fSM 131 2 fm_131 := fs_methH (lp := [0]) (by decide) rfl ⟨fs_131_0, trivial⟩
theorem fP_132 : mj_P 132 = (7, 2, (some .float), mcX7_pairShare, []) := rfl
theorem fa_132 {pc : Nat} {e : mjE} (h : mj_at mcX7_pairShare pc = some e) : fAt 132 pc e := by unfold fAt; rw [fP_132]; exact h
theorem fr_132 : (mj_P 132).2.2.1 = (some .float) := by rw [fP_132]
theorem fna_132 : (mj_P 132).2.1 = 2 := by rw [fP_132]
theorem fx_132 : 2 ≤ mj_mx.getD 132 0 := by decide
theorem fh_132 : (mj_P 132).2.2.2.2.isEmpty = true := by rw [fP_132]; rfl
theorem fs_132_22 : fSB 132 [0] 2 22 f_132_22 := by
  unfold f_132_22
  refine fo_aload_n (k := 2) (fa_132 rfl) ?_
  refine fo_geti (fa_132 rfl) (by decide) rfl ?_
  refine fo_aload_n (k := 2) (fa_132 rfl) ?_
  refine fo_geti (fa_132 rfl) (by decide) rfl ?_
  refine fo_iconst (fa_132 rfl) fk_c_1 ?_
  refine fo_isub (fa_132 rfl) ?_
  refine fo_imul (fa_132 rfl) ?_
  refine fo_iconst (fa_132 rfl) fk_c_2 ?_
  refine fo_idiv (fa_132 rfl) ?_
  refine fo_istore_n (k := 3) (fa_132 rfl) ?_
  refine fo_aload_n (k := 2) (fa_132 rfl) ?_
  refine fo_virtual (by decide) fna_22 (fo_call (fa_132 rfl) fNs_virtual fsm_22 (by decide) fFil_4 fna_22 fx_22 (by rw [fP_22]; rfl) fh_132 ?_)
  exact fo_bad
theorem fs_132_0 : fSB 132 [0] 2 0 f_132_0 := by
  unfold f_132_0
  refine fo_aload_n (k := 0) (fa_132 rfl) ?_
  refine fo_iload_n (k := 1) (fa_132 rfl) ?_
  refine fo_virtual (by decide) fna_138 (fo_call (fa_132 rfl) fNs_virtual fsm_138 (by decide) fFil_1 fna_138 fx_138 (by rw [fP_138]; rfl) fh_132 ?_)
  refine fo_astore_n (k := 2) (fa_132 rfl) ?_
  refine fo_aload_n (k := 2) (fa_132 rfl) ?_
  refine fo_geti (fa_132 rfl) (by decide) rfl ?_
  refine fo_iconst (fa_132 rfl) fk_c_2 ?_
  refine fo_icmp_ge (fa_132 rfl) (pcT := 22) rfl fs_132_22 ?_
  exact fo_throw (fa_132 rfl) fh_132
theorem fsm_132 : fSM 132 2 fm_132 := fs_methH (lp := [0]) (by decide) rfl ⟨fs_132_0, trivial⟩
theorem fP_133 : mj_P 133 = (7, 1, (some .long), mcX7_checksum, []) := rfl
theorem fa_133 {pc : Nat} {e : mjE} (h : mj_at mcX7_checksum pc = some e) : fAt 133 pc e := by unfold fAt; rw [fP_133]; exact h
theorem fr_133 : (mj_P 133).2.2.1 = (some .long) := by rw [fP_133]
theorem fna_133 : (mj_P 133).2.1 = 1 := by rw [fP_133]
theorem fx_133 : 1 ≤ mj_mx.getD 133 0 := by decide
theorem fh_133 : (mj_P 133).2.2.2.2.isEmpty = true := by rw [fP_133]; rfl
theorem fs_133_107 : fSB 133 [0, 6, 31, 56, 80] 3 107 f_133_107 := by
  unfold f_133_107
  refine fo_lload_n (k := 1) (fa_133 rfl) ?_
  exact fo_lret (fa_133 rfl) fr_133
theorem fs_133_80 : fSB 133 [0, 6, 31, 56, 80] 3 80 f_133_80 := by
  unfold f_133_80
  refine fo_iload_n (k := 3) (fa_133 rfl) ?_
  refine fo_aload_n (k := 0) (fa_133 rfl) ?_
  refine fo_geti (fa_133 rfl) (by decide) rfl ?_
  refine fo_icmp_ge (fa_133 rfl) (pcT := 107) rfl fs_133_107 ?_
  refine fo_ldc2 (fa_133 rfl) ?_
  refine fo_lload_n (k := 1) (fa_133 rfl) ?_
  refine fo_lmul (fa_133 rfl) ?_
  refine fo_aload_n (k := 0) (fa_133 rfl) ?_
  refine fo_iload_n (k := 3) (fa_133 rfl) ?_
  refine fo_virtual (by decide) fna_161 (fo_call (fa_133 rfl) fNs_virtual fsm_161 (by decide) fFil_0 fna_161 fx_161 (by rw [fP_161]; rfl) fh_133 ?_)
  refine fo_i2l (fa_133 rfl) ?_
  refine fo_ladd (fa_133 rfl) ?_
  refine fo_lstore_n (k := 1) (fa_133 rfl) ?_
  refine fo_iinc (k := 3) (fa_133 rfl) fk_c_1 ?_
  exact fo_goto (fa_133 rfl) (pcT := 80) rfl (fo_back (q := 80) rfl)
theorem fs_133_78 : fSB 133 [0, 6, 31, 56, 80] 3 78 f_133_78 := by
  unfold f_133_78
  refine fo_iconst (fa_133 rfl) fk_c_0 ?_
  refine fo_istore_n (k := 3) (fa_133 rfl) ?_
  exact fs_133_80
theorem fs_133_56 : fSB 133 [0, 6, 31, 56, 80] 3 56 f_133_56 := by
  unfold f_133_56
  refine fo_iload_n (k := 3) (fa_133 rfl) ?_
  refine fo_iconst (fa_133 rfl) fk_c_3 ?_
  refine fo_icmp_ge (fa_133 rfl) (pcT := 78) rfl fs_133_78 ?_
  refine fo_aload_n (k := 0) (fa_133 rfl) ?_
  refine fo_getr (fa_133 rfl) (by decide) rfl ?_
  refine fo_iload_n (k := 3) (fa_133 rfl) ?_
  refine fo_aaload (fa_133 rfl) (by decide) (by decide) ?_
  refine fo_lload_n (k := 1) (fa_133 rfl) ?_
  refine fo_virtual (by decide) fna_53 (fo_call (fa_133 rfl) fNs_virtual fsm_53 (by decide) fFil_4 fna_53 fx_53 (by rw [fP_53]; rfl) fh_133 ?_)
  refine fo_lstore_n (k := 1) (fa_133 rfl) ?_
  refine fo_iinc (k := 3) (fa_133 rfl) fk_c_1 ?_
  exact fo_goto (fa_133 rfl) (pcT := 56) rfl (fo_back (q := 56) rfl)
theorem fs_133_54 : fSB 133 [0, 6, 31, 56, 80] 3 54 f_133_54 := by
  unfold f_133_54
  refine fo_iconst (fa_133 rfl) fk_c_0 ?_
  refine fo_istore_n (k := 3) (fa_133 rfl) ?_
  exact fs_133_56
theorem fs_133_31 : fSB 133 [0, 6, 31, 56, 80] 3 31 f_133_31 := by
  unfold f_133_31
  refine fo_iload_n (k := 3) (fa_133 rfl) ?_
  refine fo_bipush (fa_133 rfl) fk_b_6 ?_
  refine fo_icmp_ge (fa_133 rfl) (pcT := 54) rfl fs_133_54 ?_
  refine fo_aload_n (k := 0) (fa_133 rfl) ?_
  refine fo_getr (fa_133 rfl) (by decide) rfl ?_
  refine fo_iload_n (k := 3) (fa_133 rfl) ?_
  refine fo_aaload (fa_133 rfl) (by decide) (by decide) ?_
  refine fo_lload_n (k := 1) (fa_133 rfl) ?_
  refine fo_virtual (by decide) fna_65 (fo_call (fa_133 rfl) fNs_virtual fsm_65 (by decide) fFil_4 fna_65 fx_65 (by rw [fP_65]; rfl) fh_133 ?_)
  refine fo_lstore_n (k := 1) (fa_133 rfl) ?_
  refine fo_iinc (k := 3) (fa_133 rfl) fk_c_1 ?_
  exact fo_goto (fa_133 rfl) (pcT := 31) rfl (fo_back (q := 31) rfl)
theorem fs_133_29 : fSB 133 [0, 6, 31, 56, 80] 3 29 f_133_29 := by
  unfold f_133_29
  refine fo_iconst (fa_133 rfl) fk_c_0 ?_
  refine fo_istore_n (k := 3) (fa_133 rfl) ?_
  exact fs_133_31
theorem fs_133_6 : fSB 133 [0, 6, 31, 56, 80] 3 6 f_133_6 := by
  unfold f_133_6
  refine fo_iload_n (k := 3) (fa_133 rfl) ?_
  refine fo_bipush (fa_133 rfl) fk_b_6 ?_
  refine fo_icmp_ge (fa_133 rfl) (pcT := 29) rfl fs_133_29 ?_
  refine fo_aload_n (k := 0) (fa_133 rfl) ?_
  refine fo_getr (fa_133 rfl) (by decide) rfl ?_
  refine fo_iload_n (k := 3) (fa_133 rfl) ?_
  refine fo_aaload (fa_133 rfl) (by decide) (by decide) ?_
  refine fo_lload_n (k := 1) (fa_133 rfl) ?_
  refine fo_virtual (by decide) fna_17 (fo_call (fa_133 rfl) fNs_virtual fsm_17 (by decide) fFil_3 fna_17 fx_17 (by rw [fP_17]; rfl) fh_133 ?_)
  refine fo_lstore_n (k := 1) (fa_133 rfl) ?_
  refine fo_iinc (k := 3) (fa_133 rfl) fk_c_1 ?_
  exact fo_goto (fa_133 rfl) (pcT := 6) rfl (fo_back (q := 6) rfl)
theorem fs_133_0 : fSB 133 [0, 6, 31, 56, 80] 3 0 f_133_0 := by
  unfold f_133_0
  refine fo_ldc2 (fa_133 rfl) ?_
  refine fo_lstore_n (k := 1) (fa_133 rfl) ?_
  refine fo_iconst (fa_133 rfl) fk_c_0 ?_
  refine fo_istore_n (k := 3) (fa_133 rfl) ?_
  exact fs_133_6
theorem fsm_133 : fSM 133 3 fm_133 := fs_methH (lp := [0, 6, 31, 56, 80]) (by decide) rfl ⟨fs_133_0, fs_133_6, fs_133_31, fs_133_56, fs_133_80, trivial⟩
theorem fP_151 : mj_P 151 = (7, 1, (some .boolean), mcX7_hasEnoughBlocks, []) := rfl
theorem fa_151 {pc : Nat} {e : mjE} (h : mj_at mcX7_hasEnoughBlocks pc = some e) : fAt 151 pc e := by unfold fAt; rw [fP_151]; exact h
theorem fr_151 : (mj_P 151).2.2.1 = (some .boolean) := by rw [fP_151]
theorem fna_151 : (mj_P 151).2.1 = 1 := by rw [fP_151]
theorem fx_151 : 1 ≤ mj_mx.getD 151 0 := by decide
theorem fh_151 : (mj_P 151).2.2.2.2.isEmpty = true := by rw [fP_151]; rfl
theorem fs_151_84 : fSB 151 [0, 37, 47] 4 84 f_151_84 := by
  unfold f_151_84
  refine fo_iconst (fa_151 rfl) fk_c_1 ?_
  exact fo_iret (fa_151 rfl) fr_151 fw_bool
theorem fs_151_78 : fSB 151 [0, 37, 47] 4 78 f_151_78 := by
  unfold f_151_78
  refine fo_iinc (k := 2) (fa_151 rfl) fk_c_1 ?_
  exact fo_goto (fa_151 rfl) (pcT := 37) rfl (fo_back (q := 37) rfl)
theorem fs_151_72 : fSB 151 [0, 37, 47] 4 72 f_151_72 := by
  unfold f_151_72
  refine fo_iinc (k := 3) (fa_151 rfl) fk_c_1 ?_
  exact fo_goto (fa_151 rfl) (pcT := 47) rfl (fo_back (q := 47) rfl)
theorem fs_151_47 : fSB 151 [0, 37, 47] 4 47 f_151_47 := by
  unfold f_151_47
  refine fo_iload_n (k := 3) (fa_151 rfl) ?_
  refine fo_iload_n (k := 2) (fa_151 rfl) ?_
  refine fo_icmp_ge (fa_151 rfl) (pcT := 78) rfl fs_151_78 ?_
  refine fo_aload_n (k := 0) (fa_151 rfl) ?_
  refine fo_iload_n (k := 2) (fa_151 rfl) ?_
  refine fo_virtual (by decide) fna_15 (fo_call (fa_151 rfl) fNs_virtual fsm_15 (by decide) fFil_0 fna_15 fx_15 (by rw [fP_15]; rfl) fh_151 ?_)
  refine fo_aload_n (k := 0) (fa_151 rfl) ?_
  refine fo_iload_n (k := 3) (fa_151 rfl) ?_
  refine fo_virtual (by decide) fna_15 (fo_call (fa_151 rfl) fNs_virtual fsm_15 (by decide) fFil_0 fna_15 fx_15 (by rw [fP_15]; rfl) fh_151 ?_)
  refine fo_iand (fa_151 rfl) ?_
  refine fo_static (by decide) (fo_call (fa_151 rfl) fNs_static fsm_272 (by decide) fFil_0 fna_272 fx_272 (by rw [fP_272]; rfl) fh_151 ?_)
  refine fo_iload_n (k := 1) (fa_151 rfl) ?_
  refine fo_icmp_eq (fa_151 rfl) (pcT := 72) rfl fs_151_72 ?_
  refine fo_iconst (fa_151 rfl) fk_c_0 ?_
  exact fo_iret (fa_151 rfl) fr_151 fw_bool
theorem fs_151_37 : fSB 151 [0, 37, 47] 4 37 f_151_37 := by
  unfold f_151_37
  refine fo_iload_n (k := 2) (fa_151 rfl) ?_
  refine fo_aload_n (k := 0) (fa_151 rfl) ?_
  refine fo_geti (fa_151 rfl) (by decide) rfl ?_
  refine fo_icmp_ge (fa_151 rfl) (pcT := 84) rfl fs_151_84 ?_
  refine fo_iconst (fa_151 rfl) fk_c_0 ?_
  refine fo_istore_n (k := 3) (fa_151 rfl) ?_
  exact fs_151_47
theorem fs_151_35 : fSB 151 [0, 37, 47] 4 35 f_151_35 := by
  unfold f_151_35
  refine fo_iconst (fa_151 rfl) fk_c_0 ?_
  refine fo_istore_n (k := 2) (fa_151 rfl) ?_
  exact fs_151_37
theorem fs_151_22 : fSB 151 [0, 37, 47] 4 22 f_151_22 := by
  unfold f_151_22
  refine fo_aload_n (k := 0) (fa_151 rfl) ?_
  refine fo_geti (fa_151 rfl) (by decide) rfl ?_
  refine fo_aload_n (k := 0) (fa_151 rfl) ?_
  refine fo_geti (fa_151 rfl) (by decide) rfl ?_
  refine fo_icmp_ge (fa_151 rfl) (pcT := 35) rfl fs_151_35 ?_
  refine fo_iconst (fa_151 rfl) fk_c_0 ?_
  exact fo_iret (fa_151 rfl) fr_151 fw_bool
theorem fs_151_20 : fSB 151 [0, 37, 47] 4 20 f_151_20 := by
  unfold f_151_20
  refine fo_iconst (fa_151 rfl) fk_c_1 ?_
  exact fo_iret (fa_151 rfl) fr_151 fw_bool
theorem fs_151_0 : fSB 151 [0, 37, 47] 4 0 f_151_0 := by
  unfold f_151_0
  refine fo_aload_n (k := 0) (fa_151 rfl) ?_
  refine fo_virtual (by decide) fna_24 (fo_call (fa_151 rfl) fNs_virtual fsm_24 (by decide) fFil_2 fna_24 fx_24 (by rw [fP_24]; rfl) fh_151 ?_)
  refine fo_istore_n (k := 1) (fa_151 rfl) ?_
  refine fo_iload_n (k := 1) (fa_151 rfl) ?_
  refine fo_if_eq (fa_151 rfl) (pcT := 20) rfl fs_151_20 ?_
  refine fo_aload_n (k := 0) (fa_151 rfl) ?_
  refine fo_geti (fa_151 rfl) (by decide) rfl ?_
  refine fo_aload_n (k := 0) (fa_151 rfl) ?_
  refine fo_geti (fa_151 rfl) (by decide) rfl ?_
  refine fo_icmp_le (fa_151 rfl) (pcT := 22) rfl fs_151_22 ?_
  exact fs_151_20
theorem fsm_151 : fSM 151 4 fm_151 := fs_methH (lp := [0, 37, 47]) (by decide) rfl ⟨fs_151_0, fs_151_37, fs_151_47, trivial⟩
theorem fP_153 : mj_P 153 = (7, 2, (some .boolean), mcX7_hasEachPointOnce, []) := rfl
theorem fa_153 {pc : Nat} {e : mjE} (h : mj_at mcX7_hasEachPointOnce pc = some e) : fAt 153 pc e := by unfold fAt; rw [fP_153]; exact h
theorem fr_153 : (mj_P 153).2.2.1 = (some .boolean) := by rw [fP_153]
theorem fna_153 : (mj_P 153).2.1 = 2 := by rw [fP_153]
theorem fx_153 : 3 ≤ mj_mx.getD 153 0 := by decide
theorem fh_153 : (mj_P 153).2.2.2.2.isEmpty = true := by rw [fP_153]; rfl
theorem fs_153_66 : fSB 153 [0, 5] 2 66 f_153_66 := by
  unfold f_153_66
  exact fo_iret (fa_153 rfl) fr_153 fw_bool
theorem fs_153_65 : fSB 153 [0, 5] 2 65 f_153_65 := by
  unfold f_153_65
  refine fo_iconst (fa_153 rfl) fk_c_0 ?_
  exact fs_153_66
theorem fs_153_53 : fSB 153 [0, 5] 2 53 f_153_53 := by
  unfold f_153_53
  refine fo_iload_n (k := 3) (fa_153 rfl) ?_
  refine fo_aload_n (k := 0) (fa_153 rfl) ?_
  refine fo_virtual (by decide) fna_18 (fo_call (fa_153 rfl) fNs_virtual fsm_18 (by decide) fFil_0 fna_18 fx_18 (by rw [fP_18]; rfl) fh_153 ?_)
  refine fo_icmp_ne (fa_153 rfl) (pcT := 65) rfl fs_153_65 ?_
  refine fo_iconst (fa_153 rfl) fk_c_1 ?_
  exact fo_goto (fa_153 rfl) (pcT := 66) rfl fs_153_66
theorem fs_153_47 : fSB 153 [0, 5] 2 47 f_153_47 := by
  unfold f_153_47
  refine fo_iinc (k := 4) (fa_153 rfl) fk_c_1 ?_
  exact fo_goto (fa_153 rfl) (pcT := 5) rfl (fo_back (q := 5) rfl)
theorem fs_153_38 : fSB 153 [0, 5] 2 38 f_153_38 := by
  unfold f_153_38
  refine fo_iload_n (k := 3) (fa_153 rfl) ?_
  refine fo_aload_n (k := 0) (fa_153 rfl) ?_
  refine fo_iload (k := 4) (fa_153 rfl) ?_
  refine fo_virtual (by decide) fna_15 (fo_call (fa_153 rfl) fNs_virtual fsm_15 (by decide) fFil_0 fna_15 fx_15 (by rw [fP_15]; rfl) fh_153 ?_)
  refine fo_ior (fa_153 rfl) ?_
  refine fo_istore_n (k := 3) (fa_153 rfl) ?_
  exact fs_153_47
theorem fs_153_5 : fSB 153 [0, 5] 2 5 f_153_5 := by
  unfold f_153_5
  refine fo_iload (k := 4) (fa_153 rfl) ?_
  refine fo_aload_n (k := 0) (fa_153 rfl) ?_
  refine fo_geti (fa_153 rfl) (by decide) rfl ?_
  refine fo_icmp_ge (fa_153 rfl) (pcT := 53) rfl fs_153_53 ?_
  refine fo_lload_n (k := 1) (fa_153 rfl) ?_
  refine fo_iload (k := 4) (fa_153 rfl) ?_
  exact fo_bad
theorem fs_153_0 : fSB 153 [0, 5] 2 0 f_153_0 := by
  unfold f_153_0
  refine fo_iconst (fa_153 rfl) fk_c_0 ?_
  refine fo_istore_n (k := 3) (fa_153 rfl) ?_
  refine fo_iconst (fa_153 rfl) fk_c_0 ?_
  refine fo_istore (k := 4) (fa_153 rfl) ?_
  exact fs_153_5
theorem fsm_153 : fSM 153 2 fm_153 := fs_methH (lp := [0, 5]) (by decide) rfl ⟨fs_153_0, fs_153_5, trivial⟩
theorem fP_152 : mj_P 152 = (7, 2, (some .boolean), mcX7_hasRightCovers, []) := rfl
theorem fa_152 {pc : Nat} {e : mjE} (h : mj_at mcX7_hasRightCovers pc = some e) : fAt 152 pc e := by unfold fAt; rw [fP_152]; exact h
theorem fr_152 : (mj_P 152).2.2.1 = (some .boolean) := by rw [fP_152]
theorem fna_152 : (mj_P 152).2.1 = 2 := by rw [fP_152]
theorem fx_152 : 2 ≤ mj_mx.getD 152 0 := by decide
theorem fh_152 : (mj_P 152).2.2.2.2.isEmpty = true := by rw [fP_152]; rfl
theorem fs_152_111 : fSB 152 [0, 42, 72] 3 111 f_152_111 := by
  unfold f_152_111
  refine fo_iconst (fa_152 rfl) fk_c_1 ?_
  exact fo_iret (fa_152 rfl) fr_152 fw_bool
theorem fs_152_105 : fSB 152 [0, 42, 72] 3 105 f_152_105 := by
  unfold f_152_105
  refine fo_iinc (k := 2) (fa_152 rfl) fk_c_1 ?_
  exact fo_goto (fa_152 rfl) (pcT := 42) rfl (fo_back (q := 42) rfl)
theorem fs_152_99 : fSB 152 [0, 42, 72] 3 99 f_152_99 := by
  unfold f_152_99
  refine fo_iinc (k := 3) (fa_152 rfl) fk_c_1 ?_
  exact fo_goto (fa_152 rfl) (pcT := 72) rfl (fo_back (q := 72) rfl)
theorem fs_152_72 : fSB 152 [0, 42, 72] 3 72 f_152_72 := by
  unfold f_152_72
  refine fo_iload_n (k := 3) (fa_152 rfl) ?_
  refine fo_iload_n (k := 2) (fa_152 rfl) ?_
  refine fo_icmp_ge (fa_152 rfl) (pcT := 105) rfl fs_152_105 ?_
  refine fo_aload_n (k := 0) (fa_152 rfl) ?_
  refine fo_getr (fa_152 rfl) (by decide) rfl ?_
  refine fo_iload_n (k := 2) (fa_152 rfl) ?_
  refine fo_virtual (by decide) fna_1 (fo_call (fa_152 rfl) fNs_virtual fsm_1 (by decide) fFil_0 fna_1 fx_1 (by rw [fP_1]; rfl) fh_152 ?_)
  refine fo_aload_n (k := 0) (fa_152 rfl) ?_
  refine fo_getr (fa_152 rfl) (by decide) rfl ?_
  refine fo_iload_n (k := 3) (fa_152 rfl) ?_
  refine fo_virtual (by decide) fna_1 (fo_call (fa_152 rfl) fNs_virtual fsm_1 (by decide) fFil_0 fna_1 fx_1 (by rw [fP_1]; rfl) fh_152 ?_)
  refine fo_lcmp (fa_152 rfl) ?_
  refine fo_if_ne (fa_152 rfl) (pcT := 99) rfl fs_152_99 ?_
  refine fo_iconst (fa_152 rfl) fk_c_0 ?_
  exact fo_iret (fa_152 rfl) fr_152 fw_bool
theorem fs_152_70 : fSB 152 [0, 42, 72] 3 70 f_152_70 := by
  unfold f_152_70
  refine fo_iconst (fa_152 rfl) fk_c_0 ?_
  refine fo_istore_n (k := 3) (fa_152 rfl) ?_
  exact fs_152_72
theorem fs_152_42 : fSB 152 [0, 42, 72] 3 42 f_152_42 := by
  unfold f_152_42
  refine fo_iload_n (k := 2) (fa_152 rfl) ?_
  refine fo_aload_n (k := 0) (fa_152 rfl) ?_
  refine fo_getr (fa_152 rfl) (by decide) rfl ?_
  refine fo_geti (fa_152 rfl) (by decide) rfl ?_
  refine fo_icmp_ge (fa_152 rfl) (pcT := 111) rfl fs_152_111 ?_
  refine fo_aload_n (k := 1) (fa_152 rfl) ?_
  refine fo_aload_n (k := 0) (fa_152 rfl) ?_
  refine fo_getr (fa_152 rfl) (by decide) rfl ?_
  refine fo_iload_n (k := 2) (fa_152 rfl) ?_
  refine fo_virtual (by decide) fna_1 (fo_call (fa_152 rfl) fNs_virtual fsm_1 (by decide) fFil_0 fna_1 fx_1 (by rw [fP_1]; rfl) fh_152 ?_)
  refine fo_static (by decide) (fo_call (fa_152 rfl) fNs_static fsm_153 (by decide) fFil_2 fna_153 fx_153 (by rw [fP_153]; rfl) fh_152 ?_)
  refine fo_if_ne (fa_152 rfl) (pcT := 70) rfl fs_152_70 ?_
  refine fo_iconst (fa_152 rfl) fk_c_0 ?_
  exact fo_iret (fa_152 rfl) fr_152 fw_bool
theorem fs_152_40 : fSB 152 [0, 42, 72] 3 40 f_152_40 := by
  unfold f_152_40
  refine fo_iconst (fa_152 rfl) fk_c_0 ?_
  refine fo_istore_n (k := 2) (fa_152 rfl) ?_
  exact fs_152_42
theorem fs_152_18 : fSB 152 [0, 42, 72] 3 18 f_152_18 := by
  unfold f_152_18
  refine fo_aload_n (k := 0) (fa_152 rfl) ?_
  refine fo_getr (fa_152 rfl) (by decide) rfl ?_
  refine fo_aload_n (k := 1) (fa_152 rfl) ?_
  refine fo_virtual (by decide) fna_2 (fo_call (fa_152 rfl) fNs_virtual fsm_2 (by decide) fFil_1 fna_2 fx_2 (by rw [fP_2]; rfl) fh_152 ?_)
  refine fo_aload_n (k := 0) (fa_152 rfl) ?_
  refine fo_getr (fa_152 rfl) (by decide) rfl ?_
  refine fo_geti (fa_152 rfl) (by decide) rfl ?_
  refine fo_bipush (fa_152 rfl) fk_b_60 ?_
  refine fo_icmp_le (fa_152 rfl) (pcT := 40) rfl fs_152_40 ?_
  refine fo_iconst (fa_152 rfl) fk_c_1 ?_
  exact fo_iret (fa_152 rfl) fr_152 fw_bool
theorem fs_152_16 : fSB 152 [0, 42, 72] 3 16 f_152_16 := by
  unfold f_152_16
  refine fo_iconst (fa_152 rfl) fk_c_1 ?_
  exact fo_iret (fa_152 rfl) fr_152 fw_bool
theorem fs_152_0 : fSB 152 [0, 42, 72] 3 0 f_152_0 := by
  unfold f_152_0
  refine fo_aload_n (k := 1) (fa_152 rfl) ?_
  refine fo_geti (fa_152 rfl) (by decide) rfl ?_
  refine fo_if_eq (fa_152 rfl) (pcT := 16) rfl fs_152_16 ?_
  refine fo_aload_n (k := 1) (fa_152 rfl) ?_
  refine fo_geti (fa_152 rfl) (by decide) rfl ?_
  refine fo_bipush (fa_152 rfl) fk_b_12 ?_
  refine fo_icmp_le (fa_152 rfl) (pcT := 18) rfl fs_152_18 ?_
  exact fs_152_16
theorem fsm_152 : fSM 152 3 fm_152 := fs_methH (lp := [0, 42, 72]) (by decide) rfl ⟨fs_152_0, fs_152_42, fs_152_72, trivial⟩
theorem fP_155 : mj_P 155 = (7, 2, (some .boolean), mcX7_isFewOrNotApart, []) := rfl
theorem fa_155 {pc : Nat} {e : mjE} (h : mj_at mcX7_isFewOrNotApart pc = some e) : fAt 155 pc e := by unfold fAt; rw [fP_155]; exact h
theorem fr_155 : (mj_P 155).2.2.1 = (some .boolean) := by rw [fP_155]
theorem fna_155 : (mj_P 155).2.1 = 2 := by rw [fP_155]
theorem fx_155 : 2 ≤ mj_mx.getD 155 0 := by decide
theorem fh_155 : (mj_P 155).2.2.2.2.isEmpty = true := by rw [fP_155]; rfl
theorem fs_155_66 : fSB 155 [0, 4] 1 66 f_155_66 := by
  unfold f_155_66
  exact fo_iret (fa_155 rfl) fr_155 fw_bool
theorem fs_155_65 : fSB 155 [0, 4] 1 65 f_155_65 := by
  unfold f_155_65
  refine fo_iconst (fa_155 rfl) fk_c_0 ?_
  exact fs_155_66
theorem fs_155_53 : fSB 155 [0, 4] 1 53 f_155_53 := by
  unfold f_155_53
  refine fo_iload_n (k := 1) (fa_155 rfl) ?_
  refine fo_static (by decide) (fo_call (fa_155 rfl) fNs_static fsm_272 (by decide) fFil_0 fna_272 fx_272 (by rw [fP_272]; rfl) fh_155 ?_)
  refine fo_iload_n (k := 2) (fa_155 rfl) ?_
  refine fo_icmp_ge (fa_155 rfl) (pcT := 65) rfl fs_155_65 ?_
  refine fo_iconst (fa_155 rfl) fk_c_1 ?_
  exact fo_goto (fa_155 rfl) (pcT := 66) rfl fs_155_66
theorem fs_155_47 : fSB 155 [0, 4] 1 47 f_155_47 := by
  unfold f_155_47
  refine fo_iinc (k := 3) (fa_155 rfl) fk_c_1 ?_
  exact fo_goto (fa_155 rfl) (pcT := 4) rfl (fo_back (q := 4) rfl)
theorem fs_155_37 : fSB 155 [0, 4] 1 37 f_155_37 := by
  unfold f_155_37
  refine fo_aload_n (k := 0) (fa_155 rfl) ?_
  refine fo_getr (fa_155 rfl) (by decide) rfl ?_
  refine fo_iload_n (k := 3) (fa_155 rfl) ?_
  refine fo_aaload (fa_155 rfl) (by decide) (by decide) ?_
  refine fo_geti (fa_155 rfl) (by decide) rfl ?_
  refine fo_istore_n (k := 2) (fa_155 rfl) ?_
  exact fs_155_47
theorem fs_155_4 : fSB 155 [0, 4] 1 4 f_155_4 := by
  unfold f_155_4
  refine fo_iload_n (k := 3) (fa_155 rfl) ?_
  refine fo_bipush (fa_155 rfl) fk_b_6 ?_
  refine fo_icmp_ge (fa_155 rfl) (pcT := 53) rfl fs_155_53 ?_
  refine fo_iload_n (k := 1) (fa_155 rfl) ?_
  refine fo_iload_n (k := 3) (fa_155 rfl) ?_
  refine fo_static (by decide) (fo_call (fa_155 rfl) fNs_static fsm_166 (by decide) fFil_0 fna_166 fx_166 (by rw [fP_166]; rfl) fh_155 ?_)
  refine fo_if_eq (fa_155 rfl) (pcT := 47) rfl fs_155_47 ?_
  refine fo_iload_n (k := 1) (fa_155 rfl) ?_
  refine fo_aload_n (k := 0) (fa_155 rfl) ?_
  refine fo_getr (fa_155 rfl) (by decide) rfl ?_
  refine fo_iload_n (k := 3) (fa_155 rfl) ?_
  refine fo_iaload (fa_155 rfl) ?_
  refine fo_iconst (fa_155 rfl) fk_c_1 ?_
  refine fo_iload_n (k := 3) (fa_155 rfl) ?_
  refine fo_ishl (fa_155 rfl) ?_
  refine fo_ior (fa_155 rfl) ?_
  refine fo_iconst (fa_155 rfl) fk_c_m1 ?_
  refine fo_ixor (fa_155 rfl) ?_
  refine fo_iand (fa_155 rfl) ?_
  refine fo_if_eq (fa_155 rfl) (pcT := 37) rfl fs_155_37 ?_
  refine fo_iconst (fa_155 rfl) fk_c_1 ?_
  exact fo_iret (fa_155 rfl) fr_155 fw_bool
theorem fs_155_0 : fSB 155 [0, 4] 1 0 f_155_0 := by
  unfold f_155_0
  refine fo_iconst (fa_155 rfl) fk_c_0 ?_
  refine fo_istore_n (k := 2) (fa_155 rfl) ?_
  refine fo_iconst (fa_155 rfl) fk_c_0 ?_
  refine fo_istore_n (k := 3) (fa_155 rfl) ?_
  exact fs_155_4
theorem fsm_155 : fSM 155 1 fm_155 := fs_methH (lp := [0, 4]) (by decide) rfl ⟨fs_155_0, fs_155_4, trivial⟩
theorem fP_154 : mj_P 154 = (7, 1, (some .boolean), mcX7_areFewApart, []) := rfl
theorem fa_154 {pc : Nat} {e : mjE} (h : mj_at mcX7_areFewApart pc = some e) : fAt 154 pc e := by unfold fAt; rw [fP_154]; exact h
theorem fr_154 : (mj_P 154).2.2.1 = (some .boolean) := by rw [fP_154]
theorem fna_154 : (mj_P 154).2.1 = 1 := by rw [fP_154]
theorem fx_154 : 1 ≤ mj_mx.getD 154 0 := by decide
theorem fh_154 : (mj_P 154).2.2.2.2.isEmpty = true := by rw [fP_154]; rfl
theorem fs_154_156 : fSB 154 [0, 4, 49, 126] 3 156 f_154_156 := by
  unfold f_154_156
  refine fo_iconst (fa_154 rfl) fk_c_1 ?_
  exact fo_iret (fa_154 rfl) fr_154 fw_bool
theorem fs_154_150 : fSB 154 [0, 4, 49, 126] 3 150 f_154_150 := by
  unfold f_154_150
  refine fo_iinc (k := 2) (fa_154 rfl) fk_c_1 ?_
  exact fo_goto (fa_154 rfl) (pcT := 126) rfl (fo_back (q := 126) rfl)
theorem fs_154_126 : fSB 154 [0, 4, 49, 126] 3 126 f_154_126 := by
  unfold f_154_126
  refine fo_iload_n (k := 2) (fa_154 rfl) ?_
  refine fo_bipush (fa_154 rfl) fk_b_64 ?_
  refine fo_icmp_ge (fa_154 rfl) (pcT := 156) rfl fs_154_156 ?_
  refine fo_iload_n (k := 2) (fa_154 rfl) ?_
  refine fo_iload_n (k := 1) (fa_154 rfl) ?_
  refine fo_iconst (fa_154 rfl) fk_c_m1 ?_
  refine fo_ixor (fa_154 rfl) ?_
  refine fo_iand (fa_154 rfl) ?_
  refine fo_if_ne (fa_154 rfl) (pcT := 150) rfl fs_154_150 ?_
  refine fo_aload_n (k := 0) (fa_154 rfl) ?_
  refine fo_iload_n (k := 2) (fa_154 rfl) ?_
  refine fo_virtual (by decide) fna_155 (fo_call (fa_154 rfl) fNs_virtual fsm_155 (by decide) fFil_2 fna_155 fx_155 (by rw [fP_155]; rfl) fh_154 ?_)
  refine fo_if_ne (fa_154 rfl) (pcT := 150) rfl fs_154_150 ?_
  refine fo_iconst (fa_154 rfl) fk_c_0 ?_
  exact fo_iret (fa_154 rfl) fr_154 fw_bool
theorem fs_154_124 : fSB 154 [0, 4, 49, 126] 3 124 f_154_124 := by
  unfold f_154_124
  refine fo_iconst (fa_154 rfl) fk_c_1 ?_
  refine fo_istore_n (k := 2) (fa_154 rfl) ?_
  exact fs_154_126
theorem fs_154_118 : fSB 154 [0, 4, 49, 126] 3 118 f_154_118 := by
  unfold f_154_118
  refine fo_iinc (k := 2) (fa_154 rfl) fk_c_1 ?_
  exact fo_goto (fa_154 rfl) (pcT := 4) rfl (fo_back (q := 4) rfl)
theorem fs_154_112 : fSB 154 [0, 4, 49, 126] 3 112 f_154_112 := by
  unfold f_154_112
  refine fo_iinc (k := 3) (fa_154 rfl) fk_c_1 ?_
  exact fo_goto (fa_154 rfl) (pcT := 49) rfl (fo_back (q := 49) rfl)
theorem fs_154_49 : fSB 154 [0, 4, 49, 126] 3 49 f_154_49 := by
  unfold f_154_49
  refine fo_iload_n (k := 3) (fa_154 rfl) ?_
  refine fo_iload_n (k := 2) (fa_154 rfl) ?_
  refine fo_icmp_ge (fa_154 rfl) (pcT := 118) rfl fs_154_118 ?_
  refine fo_iload_n (k := 1) (fa_154 rfl) ?_
  refine fo_iload_n (k := 2) (fa_154 rfl) ?_
  refine fo_static (by decide) (fo_call (fa_154 rfl) fNs_static fsm_166 (by decide) fFil_0 fna_166 fx_166 (by rw [fP_166]; rfl) fh_154 ?_)
  refine fo_if_eq (fa_154 rfl) (pcT := 112) rfl fs_154_112 ?_
  refine fo_iload_n (k := 1) (fa_154 rfl) ?_
  refine fo_iload_n (k := 3) (fa_154 rfl) ?_
  refine fo_static (by decide) (fo_call (fa_154 rfl) fNs_static fsm_166 (by decide) fFil_0 fna_166 fx_166 (by rw [fP_166]; rfl) fh_154 ?_)
  refine fo_if_eq (fa_154 rfl) (pcT := 112) rfl fs_154_112 ?_
  refine fo_aload_n (k := 0) (fa_154 rfl) ?_
  refine fo_getr (fa_154 rfl) (by decide) rfl ?_
  refine fo_iload_n (k := 2) (fa_154 rfl) ?_
  refine fo_aaload (fa_154 rfl) (by decide) (by decide) ?_
  refine fo_aload_n (k := 0) (fa_154 rfl) ?_
  refine fo_getr (fa_154 rfl) (by decide) rfl ?_
  refine fo_iload_n (k := 3) (fa_154 rfl) ?_
  refine fo_aaload (fa_154 rfl) (by decide) (by decide) ?_
  refine fo_virtual (by decide) fna_68 (fo_call (fa_154 rfl) fNs_virtual fsm_68 (by decide) fFil_4 fna_68 fx_68 (by rw [fP_68]; rfl) fh_154 ?_)
  refine fo_if_eq (fa_154 rfl) (pcT := 112) rfl fs_154_112 ?_
  refine fo_aload_n (k := 0) (fa_154 rfl) ?_
  refine fo_getr (fa_154 rfl) (by decide) rfl ?_
  refine fo_iload_n (k := 2) (fa_154 rfl) ?_
  refine fo_dup2 (fa_154 rfl) ?_
  refine fo_iaload (fa_154 rfl) ?_
  refine fo_iconst (fa_154 rfl) fk_c_1 ?_
  refine fo_iload_n (k := 3) (fa_154 rfl) ?_
  refine fo_ishl (fa_154 rfl) ?_
  refine fo_ior (fa_154 rfl) ?_
  refine fo_iastore (fa_154 rfl) ?_
  refine fo_aload_n (k := 0) (fa_154 rfl) ?_
  refine fo_getr (fa_154 rfl) (by decide) rfl ?_
  refine fo_iload_n (k := 3) (fa_154 rfl) ?_
  refine fo_dup2 (fa_154 rfl) ?_
  refine fo_iaload (fa_154 rfl) ?_
  refine fo_iconst (fa_154 rfl) fk_c_1 ?_
  refine fo_iload_n (k := 2) (fa_154 rfl) ?_
  refine fo_ishl (fa_154 rfl) ?_
  refine fo_ior (fa_154 rfl) ?_
  refine fo_iastore (fa_154 rfl) ?_
  exact fs_154_112
theorem fs_154_47 : fSB 154 [0, 4, 49, 126] 3 47 f_154_47 := by
  unfold f_154_47
  refine fo_iconst (fa_154 rfl) fk_c_0 ?_
  refine fo_istore_n (k := 3) (fa_154 rfl) ?_
  exact fs_154_49
theorem fs_154_4 : fSB 154 [0, 4, 49, 126] 3 4 f_154_4 := by
  unfold f_154_4
  refine fo_iload_n (k := 2) (fa_154 rfl) ?_
  refine fo_bipush (fa_154 rfl) fk_b_6 ?_
  refine fo_icmp_ge (fa_154 rfl) (pcT := 124) rfl fs_154_124 ?_
  refine fo_aload_n (k := 0) (fa_154 rfl) ?_
  refine fo_getr (fa_154 rfl) (by decide) rfl ?_
  refine fo_iload_n (k := 2) (fa_154 rfl) ?_
  refine fo_iconst (fa_154 rfl) fk_c_0 ?_
  refine fo_iastore (fa_154 rfl) ?_
  refine fo_aload_n (k := 0) (fa_154 rfl) ?_
  refine fo_getr (fa_154 rfl) (by decide) rfl ?_
  refine fo_iload_n (k := 2) (fa_154 rfl) ?_
  refine fo_aaload (fa_154 rfl) (by decide) (by decide) ?_
  refine fo_geti (fa_154 rfl) (by decide) rfl ?_
  refine fo_if_le (fa_154 rfl) (pcT := 47) rfl fs_154_47 ?_
  refine fo_aload_n (k := 0) (fa_154 rfl) ?_
  refine fo_getr (fa_154 rfl) (by decide) rfl ?_
  refine fo_iload_n (k := 2) (fa_154 rfl) ?_
  refine fo_aaload (fa_154 rfl) (by decide) (by decide) ?_
  refine fo_virtual (by decide) fna_67 (fo_call (fa_154 rfl) fNs_virtual fsm_67 (by decide) fFil_4 fna_67 fx_67 (by rw [fP_67]; rfl) fh_154 ?_)
  refine fo_if_eq (fa_154 rfl) (pcT := 47) rfl fs_154_47 ?_
  refine fo_iload_n (k := 1) (fa_154 rfl) ?_
  refine fo_iconst (fa_154 rfl) fk_c_1 ?_
  refine fo_iload_n (k := 2) (fa_154 rfl) ?_
  refine fo_ishl (fa_154 rfl) ?_
  refine fo_ior (fa_154 rfl) ?_
  refine fo_istore_n (k := 1) (fa_154 rfl) ?_
  exact fs_154_47
theorem fs_154_0 : fSB 154 [0, 4, 49, 126] 3 0 f_154_0 := by
  unfold f_154_0
  refine fo_iconst (fa_154 rfl) fk_c_0 ?_
  refine fo_istore_n (k := 1) (fa_154 rfl) ?_
  refine fo_iconst (fa_154 rfl) fk_c_0 ?_
  refine fo_istore_n (k := 2) (fa_154 rfl) ?_
  exact fs_154_4
theorem fsm_154 : fSM 154 3 fm_154 := fs_methH (lp := [0, 4, 49, 126]) (by decide) rfl ⟨fs_154_0, fs_154_4, fs_154_49, fs_154_126, trivial⟩
theorem fP_134 : mj_P 134 = (7, 1, (some .boolean), mcX7_isTrue, []) := rfl
theorem fa_134 {pc : Nat} {e : mjE} (h : mj_at mcX7_isTrue pc = some e) : fAt 134 pc e := by unfold fAt; rw [fP_134]; exact h
theorem fr_134 : (mj_P 134).2.2.1 = (some .boolean) := by rw [fP_134]
theorem fna_134 : (mj_P 134).2.1 = 1 := by rw [fP_134]
theorem fx_134 : 1 ≤ mj_mx.getD 134 0 := by decide
theorem fh_134 : (mj_P 134).2.2.2.2.isEmpty = true := by rw [fP_134]; rfl
theorem fs_134_95 : fSB 134 [0, 2, 43] 5 95 f_134_95 := by
  unfold f_134_95
  refine fo_aload_n (k := 0) (fa_134 rfl) ?_
  refine fo_virtual (by decide) fna_154 (fo_call (fa_134 rfl) fNs_virtual fsm_154 (by decide) fFil_3 fna_154 fx_154 (by rw [fP_154]; rfl) fh_134 ?_)
  exact fo_iret (fa_134 rfl) fr_134 fw_bool
theorem fs_134_89 : fSB 134 [0, 2, 43] 5 89 f_134_89 := by
  unfold f_134_89
  refine fo_iinc (k := 1) (fa_134 rfl) fk_c_1 ?_
  exact fo_goto (fa_134 rfl) (pcT := 43) rfl (fo_back (q := 43) rfl)
theorem fs_134_43 : fSB 134 [0, 2, 43] 5 43 f_134_43 := by
  unfold f_134_43
  refine fo_iload_n (k := 1) (fa_134 rfl) ?_
  refine fo_iconst (fa_134 rfl) fk_c_3 ?_
  refine fo_icmp_ge (fa_134 rfl) (pcT := 95) rfl fs_134_95 ?_
  refine fo_aload_n (k := 0) (fa_134 rfl) ?_
  refine fo_getr (fa_134 rfl) (by decide) rfl ?_
  refine fo_iload_n (k := 1) (fa_134 rfl) ?_
  refine fo_aaload (fa_134 rfl) (by decide) (by decide) ?_
  refine fo_geti (fa_134 rfl) (by decide) rfl ?_
  refine fo_iconst (fa_134 rfl) fk_c_2 ?_
  refine fo_icmp_le (fa_134 rfl) (pcT := 89) rfl fs_134_89 ?_
  refine fo_aload_n (k := 0) (fa_134 rfl) ?_
  refine fo_getr (fa_134 rfl) (by decide) rfl ?_
  refine fo_iload_n (k := 1) (fa_134 rfl) ?_
  refine fo_aaload (fa_134 rfl) (by decide) (by decide) ?_
  refine fo_geti (fa_134 rfl) (by decide) rfl ?_
  refine fo_iconst (fa_134 rfl) fk_c_4 ?_
  refine fo_irem (fa_134 rfl) ?_
  refine fo_if_eq (fa_134 rfl) (pcT := 89) rfl fs_134_89 ?_
  refine fo_aload_n (k := 0) (fa_134 rfl) ?_
  refine fo_getr (fa_134 rfl) (by decide) rfl ?_
  refine fo_iload_n (k := 1) (fa_134 rfl) ?_
  refine fo_aaload (fa_134 rfl) (by decide) (by decide) ?_
  refine fo_virtual (by decide) fna_56 (fo_call (fa_134 rfl) fNs_virtual fsm_56 (by decide) fFil_2 fna_56 fx_56 (by rw [fP_56]; rfl) fh_134 ?_)
  refine fo_if_eq (fa_134 rfl) (pcT := 89) rfl fs_134_89 ?_
  refine fo_iconst (fa_134 rfl) fk_c_0 ?_
  exact fo_iret (fa_134 rfl) fr_134 fw_bool
theorem fs_134_41 : fSB 134 [0, 2, 43] 5 41 f_134_41 := by
  unfold f_134_41
  refine fo_iconst (fa_134 rfl) fk_c_0 ?_
  refine fo_istore_n (k := 1) (fa_134 rfl) ?_
  exact fs_134_43
theorem fs_134_35 : fSB 134 [0, 2, 43] 5 35 f_134_35 := by
  unfold f_134_35
  refine fo_iinc (k := 1) (fa_134 rfl) fk_c_1 ?_
  exact fo_goto (fa_134 rfl) (pcT := 2) rfl (fo_back (q := 2) rfl)
theorem fs_134_33 : fSB 134 [0, 2, 43] 5 33 f_134_33 := by
  unfold f_134_33
  refine fo_iconst (fa_134 rfl) fk_c_0 ?_
  exact fo_iret (fa_134 rfl) fr_134 fw_bool
theorem fs_134_2 : fSB 134 [0, 2, 43] 5 2 f_134_2 := by
  unfold f_134_2
  refine fo_iload_n (k := 1) (fa_134 rfl) ?_
  refine fo_bipush (fa_134 rfl) fk_b_6 ?_
  refine fo_icmp_ge (fa_134 rfl) (pcT := 41) rfl fs_134_41 ?_
  refine fo_aload_n (k := 0) (fa_134 rfl) ?_
  refine fo_getr (fa_134 rfl) (by decide) rfl ?_
  refine fo_iload_n (k := 1) (fa_134 rfl) ?_
  refine fo_aaload (fa_134 rfl) (by decide) (by decide) ?_
  refine fo_static (by decide) (fo_call (fa_134 rfl) fNs_static fsm_151 (by decide) fFil_3 fna_151 fx_151 (by rw [fP_151]; rfl) fh_134 ?_)
  refine fo_if_eq (fa_134 rfl) (pcT := 33) rfl fs_134_33 ?_
  refine fo_aload_n (k := 0) (fa_134 rfl) ?_
  refine fo_aload_n (k := 0) (fa_134 rfl) ?_
  refine fo_getr (fa_134 rfl) (by decide) rfl ?_
  refine fo_iload_n (k := 1) (fa_134 rfl) ?_
  refine fo_aaload (fa_134 rfl) (by decide) (by decide) ?_
  refine fo_virtual (by decide) fna_152 (fo_call (fa_134 rfl) fNs_virtual fsm_152 (by decide) fFil_2 fna_152 fx_152 (by rw [fP_152]; rfl) fh_134 ?_)
  refine fo_if_ne (fa_134 rfl) (pcT := 35) rfl fs_134_35 ?_
  exact fs_134_33
theorem fs_134_0 : fSB 134 [0, 2, 43] 5 0 f_134_0 := by
  unfold f_134_0
  refine fo_iconst (fa_134 rfl) fk_c_0 ?_
  refine fo_istore_n (k := 1) (fa_134 rfl) ?_
  exact fs_134_2
theorem fsm_134 : fSM 134 5 fm_134 := fs_methH (lp := [0, 2, 43]) (by decide) rfl ⟨fs_134_0, fs_134_2, fs_134_43, trivial⟩
theorem fP_169 : mj_P 169 = (8, 1, none, mcX8_init, []) := rfl
theorem fa_169 {pc : Nat} {e : mjE} (h : mj_at mcX8_init pc = some e) : fAt 169 pc e := by unfold fAt; rw [fP_169]; exact h
theorem fr_169 : (mj_P 169).2.2.1 = none := by rw [fP_169]
theorem fna_169 : (mj_P 169).2.1 = 1 := by rw [fP_169]
theorem fx_169 : 1 ≤ mj_mx.getD 169 0 := by decide
theorem fh_169 : (mj_P 169).2.2.2.2.isEmpty = true := by rw [fP_169]; rfl
theorem fs_169_0 : fSB 169 [0] 0 0 f_169_0 := by
  unfold f_169_0
  refine fo_aload_n (k := 0) (fa_169 rfl) ?_
  refine fo_objinit (fa_169 rfl) ?_
  refine fo_aload_n (k := 0) (fa_169 rfl) ?_
  refine fo_bipush (fa_169 rfl) fk_b_6 ?_
  refine fo_anewarray (fa_169 rfl) (by decide) (by decide) ?_
  refine fo_putr (fa_169 rfl) (by decide) rfl ?_
  refine fo_aload_n (k := 0) (fa_169 rfl) ?_
  refine fo_bipush (fa_169 rfl) fk_b_6 ?_
  refine fo_anewarray (fa_169 rfl) (by decide) (by decide) ?_
  refine fo_putr (fa_169 rfl) (by decide) rfl ?_
  refine fo_aload_n (k := 0) (fa_169 rfl) ?_
  refine fo_iconst (fa_169 rfl) fk_c_3 ?_
  refine fo_anewarray (fa_169 rfl) (by decide) (by decide) ?_
  refine fo_putr (fa_169 rfl) (by decide) rfl ?_
  refine fo_aload_n (k := 0) (fa_169 rfl) ?_
  refine fo_bipush (fa_169 rfl) fk_b_8 ?_
  refine fo_newarray (fa_169 rfl) rfl (by decide) (by decide) fel_20 ?_
  refine fo_putr (fa_169 rfl) (by decide) rfl ?_
  refine fo_aload_n (k := 0) (fa_169 rfl) ?_
  refine fo_bipush (fa_169 rfl) fk_b_8 ?_
  refine fo_newarray (fa_169 rfl) rfl (by decide) (by decide) fel_20 ?_
  refine fo_putr (fa_169 rfl) (by decide) rfl ?_
  refine fo_aload_n (k := 0) (fa_169 rfl) ?_
  refine fo_bipush (fa_169 rfl) fk_b_8 ?_
  refine fo_anewarray (fa_169 rfl) (by decide) (by decide) ?_
  refine fo_putr (fa_169 rfl) (by decide) rfl ?_
  refine fo_aload_n (k := 0) (fa_169 rfl) ?_
  refine fo_bipush (fa_169 rfl) fk_b_120 ?_
  refine fo_newarray (fa_169 rfl) rfl (by decide) (by decide) fel_22 ?_
  refine fo_putr (fa_169 rfl) (by decide) rfl ?_
  refine fo_aload_n (k := 0) (fa_169 rfl) ?_
  refine fo_bipush (fa_169 rfl) fk_b_61 ?_
  refine fo_anewarray (fa_169 rfl) (by decide) (by decide) ?_
  refine fo_putr (fa_169 rfl) (by decide) rfl ?_
  refine fo_aload_n (k := 0) (fa_169 rfl) ?_
  refine fo_sipush (fa_169 rfl) fk_s_128 ?_
  refine fo_newarray (fa_169 rfl) rfl (by decide) (by decide) fel_20 ?_
  refine fo_putr (fa_169 rfl) (by decide) rfl ?_
  exact fo_ret (fa_169 rfl) fr_169
theorem fsm_169 : fSM 169 0 fm_169 := fs_methH (lp := [0]) (by decide) rfl ⟨fs_169_0, trivial⟩
theorem fP_170 : mj_P 170 = (8, 1, (some .int), mcX8_thrown, []) := rfl
theorem fa_170 {pc : Nat} {e : mjE} (h : mj_at mcX8_thrown pc = some e) : fAt 170 pc e := by unfold fAt; rw [fP_170]; exact h
theorem fr_170 : (mj_P 170).2.2.1 = (some .int) := by rw [fP_170]
theorem fna_170 : (mj_P 170).2.1 = 1 := by rw [fP_170]
theorem fx_170 : 1 ≤ mj_mx.getD 170 0 := by decide
theorem fh_170 : (mj_P 170).2.2.2.2.isEmpty = true := by rw [fP_170]; rfl
theorem fs_170_0 : fSB 170 [0] 0 0 f_170_0 := by
  unfold f_170_0
  refine fo_aload_n (k := 0) (fa_170 rfl) ?_
  refine fo_geti (fa_170 rfl) (by decide) rfl ?_
  exact fo_iret (fa_170 rfl) fr_170 fw_int
theorem fsm_170 : fSM 170 0 fm_170 := fs_methH (lp := [0]) (by decide) rfl ⟨fs_170_0, trivial⟩
theorem fP_171 : mj_P 171 = (8, 5, (some .boolean), mcX8_fails, []) := rfl
theorem fa_171 {pc : Nat} {e : mjE} (h : mj_at mcX8_fails pc = some e) : fAt 171 pc e := by unfold fAt; rw [fP_171]; exact h
theorem fr_171 : (mj_P 171).2.2.1 = (some .boolean) := by rw [fP_171]
theorem fna_171 : (mj_P 171).2.1 = 5 := by rw [fP_171]
theorem fx_171 : 5 ≤ mj_mx.getD 171 0 := by decide
theorem fh_171 : (mj_P 171).2.2.2.2.isEmpty = true := by rw [fP_171]; rfl
theorem fs_171_50 : fSB 171 [0] 0 50 f_171_50 := by
  unfold f_171_50
  exact fo_iret (fa_171 rfl) fr_171 fw_bool
theorem fs_171_49 : fSB 171 [0] 0 49 f_171_49 := by
  unfold f_171_49
  refine fo_iconst (fa_171 rfl) fk_c_0 ?_
  exact fs_171_50
theorem fs_171_35 : fSB 171 [0] 0 35 f_171_35 := by
  unfold f_171_35
  refine fo_puti (fa_171 rfl) (by decide) rfl ?_
  refine fo_aload_n (k := 0) (fa_171 rfl) ?_
  refine fo_geti (fa_171 rfl) (by decide) rfl ?_
  refine fo_if_le (fa_171 rfl) (pcT := 49) rfl fs_171_49 ?_
  refine fo_iconst (fa_171 rfl) fk_c_1 ?_
  exact fo_goto (fa_171 rfl) (pcT := 50) rfl fs_171_50
theorem fs_171_34 : fSB 171 [0] 0 34 f_171_34 := by
  unfold f_171_34
  refine fo_iconst (fa_171 rfl) fk_c_0 ?_
  exact fs_171_35
theorem fs_171_25 : fSB 171 [0] 0 25 f_171_25 := by
  unfold f_171_25
  refine fo_iload (k := 4) (fa_171 rfl) ?_
  refine fo_if_eq (fa_171 rfl) (pcT := 34) rfl fs_171_34 ?_
  refine fo_iconst (fa_171 rfl) fk_c_4 ?_
  exact fo_goto (fa_171 rfl) (pcT := 35) rfl fs_171_35
theorem fs_171_17 : fSB 171 [0] 0 17 f_171_17 := by
  unfold f_171_17
  refine fo_iload_n (k := 3) (fa_171 rfl) ?_
  refine fo_if_eq (fa_171 rfl) (pcT := 25) rfl fs_171_25 ?_
  refine fo_iconst (fa_171 rfl) fk_c_3 ?_
  exact fo_goto (fa_171 rfl) (pcT := 35) rfl fs_171_35
theorem fs_171_9 : fSB 171 [0] 0 9 f_171_9 := by
  unfold f_171_9
  refine fo_iload_n (k := 2) (fa_171 rfl) ?_
  refine fo_if_eq (fa_171 rfl) (pcT := 17) rfl fs_171_17 ?_
  refine fo_iconst (fa_171 rfl) fk_c_2 ?_
  exact fo_goto (fa_171 rfl) (pcT := 35) rfl fs_171_35
theorem fs_171_0 : fSB 171 [0] 0 0 f_171_0 := by
  unfold f_171_0
  refine fo_aload_n (k := 0) (fa_171 rfl) ?_
  refine fo_iload_n (k := 1) (fa_171 rfl) ?_
  refine fo_if_eq (fa_171 rfl) (pcT := 9) rfl fs_171_9 ?_
  refine fo_iconst (fa_171 rfl) fk_c_1 ?_
  exact fo_goto (fa_171 rfl) (pcT := 35) rfl fs_171_35
theorem fsm_171 : fSM 171 0 fm_171 := fs_methH (lp := [0]) (by decide) rfl ⟨fs_171_0, trivial⟩
theorem fP_172 : mj_P 172 = (8, 3, (some .boolean), mcX8_in, []) := rfl
theorem fa_172 {pc : Nat} {e : mjE} (h : mj_at mcX8_in pc = some e) : fAt 172 pc e := by unfold fAt; rw [fP_172]; exact h
theorem fr_172 : (mj_P 172).2.2.1 = (some .boolean) := by rw [fP_172]
theorem fna_172 : (mj_P 172).2.1 = 3 := by rw [fP_172]
theorem fx_172 : 6 ≤ mj_mx.getD 172 0 := by decide
theorem fh_172 : (mj_P 172).2.2.2.2.isEmpty = true := by rw [fP_172]; rfl
theorem fs_172_18 : fSB 172 [0] 0 18 f_172_18 := by
  unfold f_172_18
  exact fo_iret (fa_172 rfl) fr_172 fw_bool
theorem fs_172_17 : fSB 172 [0] 0 17 f_172_17 := by
  unfold f_172_17
  refine fo_iconst (fa_172 rfl) fk_c_0 ?_
  exact fs_172_18
theorem fs_172_0 : fSB 172 [0] 0 0 f_172_0 := by
  unfold f_172_0
  refine fo_lload_n (k := 0) (fa_172 rfl) ?_
  refine fo_lload_n (k := 2) (fa_172 rfl) ?_
  refine fo_lcmp (fa_172 rfl) ?_
  refine fo_if_lt (fa_172 rfl) (pcT := 17) rfl fs_172_17 ?_
  refine fo_lload_n (k := 0) (fa_172 rfl) ?_
  refine fo_lload (k := 4) (fa_172 rfl) ?_
  refine fo_lcmp (fa_172 rfl) ?_
  refine fo_if_gt (fa_172 rfl) (pcT := 17) rfl fs_172_17 ?_
  refine fo_iconst (fa_172 rfl) fk_c_1 ?_
  exact fo_goto (fa_172 rfl) (pcT := 18) rfl fs_172_18
theorem fsm_172 : fSM 172 0 fm_172 := fs_methH (lp := [0]) (by decide) rfl ⟨fs_172_0, trivial⟩
theorem fP_173 : mj_P 173 = (8, 1, (some .boolean), mcX8_isSlot, []) := rfl
theorem fa_173 {pc : Nat} {e : mjE} (h : mj_at mcX8_isSlot pc = some e) : fAt 173 pc e := by unfold fAt; rw [fP_173]; exact h
theorem fr_173 : (mj_P 173).2.2.1 = (some .boolean) := by rw [fP_173]
theorem fna_173 : (mj_P 173).2.1 = 1 := by rw [fP_173]
theorem fx_173 : 1 ≤ mj_mx.getD 173 0 := by decide
theorem fh_173 : (mj_P 173).2.2.2.2.isEmpty = true := by rw [fP_173]; rfl
theorem fs_173_0 : fSB 173 [0] 1 0 f_173_0 := by
  unfold f_173_0
  refine fo_iload_n (k := 0) (fa_173 rfl) ?_
  refine fo_i2l (fa_173 rfl) ?_
  refine fo_lconst (fa_173 rfl) rfl ?_
  refine fo_ldc2 (fa_173 rfl) ?_
  refine fo_static (by decide) (fo_call (fa_173 rfl) fNs_static fsm_172 (by decide) fFil_0 fna_172 fx_172 (by rw [fP_172]; rfl) fh_173 ?_)
  exact fo_iret (fa_173 rfl) fr_173 fw_bool
theorem fsm_173 : fSM 173 1 fm_173 := fs_methH (lp := [0]) (by decide) rfl ⟨fs_173_0, trivial⟩
theorem fP_174 : mj_P 174 = (8, 1, (some .boolean), mcX8_isOfRows, []) := rfl
theorem fa_174 {pc : Nat} {e : mjE} (h : mj_at mcX8_isOfRows pc = some e) : fAt 174 pc e := by unfold fAt; rw [fP_174]; exact h
theorem fr_174 : (mj_P 174).2.2.1 = (some .boolean) := by rw [fP_174]
theorem fna_174 : (mj_P 174).2.1 = 1 := by rw [fP_174]
theorem fx_174 : 1 ≤ mj_mx.getD 174 0 := by decide
theorem fh_174 : (mj_P 174).2.2.2.2.isEmpty = true := by rw [fP_174]; rfl
theorem fs_174_0 : fSB 174 [0] 1 0 f_174_0 := by
  unfold f_174_0
  refine fo_iload_n (k := 0) (fa_174 rfl) ?_
  refine fo_i2l (fa_174 rfl) ?_
  refine fo_lconst (fa_174 rfl) rfl ?_
  refine fo_ldc2 (fa_174 rfl) ?_
  refine fo_static (by decide) (fo_call (fa_174 rfl) fNs_static fsm_172 (by decide) fFil_0 fna_172 fx_172 (by rw [fP_172]; rfl) fh_174 ?_)
  exact fo_iret (fa_174 rfl) fr_174 fw_bool
theorem fsm_174 : fSM 174 1 fm_174 := fs_methH (lp := [0]) (by decide) rfl ⟨fs_174_0, trivial⟩
theorem fP_175 : mj_P 175 = (8, 2, (some .boolean), mcX8_has, []) := rfl
theorem fa_175 {pc : Nat} {e : mjE} (h : mj_at mcX8_has pc = some e) : fAt 175 pc e := by unfold fAt; rw [fP_175]; exact h
theorem fr_175 : (mj_P 175).2.2.1 = (some .boolean) := by rw [fP_175]
theorem fna_175 : (mj_P 175).2.1 = 2 := by rw [fP_175]
theorem fx_175 : 2 ≤ mj_mx.getD 175 0 := by decide
theorem fh_175 : (mj_P 175).2.2.2.2.isEmpty = true := by rw [fP_175]; rfl
theorem fs_175_21 : fSB 175 [0] 2 21 f_175_21 := by
  unfold f_175_21
  exact fo_iret (fa_175 rfl) fr_175 fw_bool
theorem fs_175_20 : fSB 175 [0] 2 20 f_175_20 := by
  unfold f_175_20
  refine fo_iconst (fa_175 rfl) fk_c_0 ?_
  exact fs_175_21
theorem fs_175_0 : fSB 175 [0] 2 0 f_175_0 := by
  unfold f_175_0
  refine fo_iload_n (k := 1) (fa_175 rfl) ?_
  refine fo_static (by decide) (fo_call (fa_175 rfl) fNs_static fsm_173 (by decide) fFil_0 fna_173 fx_173 (by rw [fP_173]; rfl) fh_175 ?_)
  refine fo_if_eq (fa_175 rfl) (pcT := 20) rfl fs_175_20 ?_
  refine fo_aload_n (k := 0) (fa_175 rfl) ?_
  refine fo_getr (fa_175 rfl) (by decide) rfl ?_
  refine fo_iload_n (k := 1) (fa_175 rfl) ?_
  refine fo_aaload (fa_175 rfl) (by decide) (by decide) ?_
  refine fo_ifnull (fa_175 rfl) (pcT := 20) rfl fs_175_20 ?_
  refine fo_iconst (fa_175 rfl) fk_c_1 ?_
  exact fo_goto (fa_175 rfl) (pcT := 21) rfl fs_175_21
theorem fsm_175 : fSM 175 2 fm_175 := fs_methH (lp := [0]) (by decide) rfl ⟨fs_175_0, trivial⟩
theorem fP_176 : mj_P 176 = (8, 2, (some .boolean), mcX8_hasTable, []) := rfl
theorem fa_176 {pc : Nat} {e : mjE} (h : mj_at mcX8_hasTable pc = some e) : fAt 176 pc e := by unfold fAt; rw [fP_176]; exact h
theorem fr_176 : (mj_P 176).2.2.1 = (some .boolean) := by rw [fP_176]
theorem fna_176 : (mj_P 176).2.1 = 2 := by rw [fP_176]
theorem fx_176 : 2 ≤ mj_mx.getD 176 0 := by decide
theorem fh_176 : (mj_P 176).2.2.2.2.isEmpty = true := by rw [fP_176]; rfl
theorem fs_176_21 : fSB 176 [0] 2 21 f_176_21 := by
  unfold f_176_21
  exact fo_iret (fa_176 rfl) fr_176 fw_bool
theorem fs_176_20 : fSB 176 [0] 2 20 f_176_20 := by
  unfold f_176_20
  refine fo_iconst (fa_176 rfl) fk_c_0 ?_
  exact fs_176_21
theorem fs_176_0 : fSB 176 [0] 2 0 f_176_0 := by
  unfold f_176_0
  refine fo_iload_n (k := 1) (fa_176 rfl) ?_
  refine fo_static (by decide) (fo_call (fa_176 rfl) fNs_static fsm_173 (by decide) fFil_0 fna_173 fx_173 (by rw [fP_173]; rfl) fh_176 ?_)
  refine fo_if_eq (fa_176 rfl) (pcT := 20) rfl fs_176_20 ?_
  refine fo_aload_n (k := 0) (fa_176 rfl) ?_
  refine fo_getr (fa_176 rfl) (by decide) rfl ?_
  refine fo_iload_n (k := 1) (fa_176 rfl) ?_
  refine fo_aaload (fa_176 rfl) (by decide) (by decide) ?_
  refine fo_ifnull (fa_176 rfl) (pcT := 20) rfl fs_176_20 ?_
  refine fo_iconst (fa_176 rfl) fk_c_1 ?_
  exact fo_goto (fa_176 rfl) (pcT := 21) rfl fs_176_21
theorem fsm_176 : fSM 176 2 fm_176 := fs_methH (lp := [0]) (by decide) rfl ⟨fs_176_0, trivial⟩
theorem fP_177 : mj_P 177 = (8, 2, (some .boolean), mcX8_hasRows, []) := rfl
theorem fa_177 {pc : Nat} {e : mjE} (h : mj_at mcX8_hasRows pc = some e) : fAt 177 pc e := by unfold fAt; rw [fP_177]; exact h
theorem fr_177 : (mj_P 177).2.2.1 = (some .boolean) := by rw [fP_177]
theorem fna_177 : (mj_P 177).2.1 = 2 := by rw [fP_177]
theorem fx_177 : 2 ≤ mj_mx.getD 177 0 := by decide
theorem fh_177 : (mj_P 177).2.2.2.2.isEmpty = true := by rw [fP_177]; rfl
theorem fs_177_21 : fSB 177 [0] 2 21 f_177_21 := by
  unfold f_177_21
  exact fo_iret (fa_177 rfl) fr_177 fw_bool
theorem fs_177_20 : fSB 177 [0] 2 20 f_177_20 := by
  unfold f_177_20
  refine fo_iconst (fa_177 rfl) fk_c_0 ?_
  exact fs_177_21
theorem fs_177_0 : fSB 177 [0] 2 0 f_177_0 := by
  unfold f_177_0
  refine fo_iload_n (k := 1) (fa_177 rfl) ?_
  refine fo_static (by decide) (fo_call (fa_177 rfl) fNs_static fsm_174 (by decide) fFil_0 fna_174 fx_174 (by rw [fP_174]; rfl) fh_177 ?_)
  refine fo_if_eq (fa_177 rfl) (pcT := 20) rfl fs_177_20 ?_
  refine fo_aload_n (k := 0) (fa_177 rfl) ?_
  refine fo_getr (fa_177 rfl) (by decide) rfl ?_
  refine fo_iload_n (k := 1) (fa_177 rfl) ?_
  refine fo_aaload (fa_177 rfl) (by decide) (by decide) ?_
  refine fo_ifnull (fa_177 rfl) (pcT := 20) rfl fs_177_20 ?_
  refine fo_iconst (fa_177 rfl) fk_c_1 ?_
  exact fo_goto (fa_177 rfl) (pcT := 21) rfl fs_177_21
theorem fsm_177 : fSM 177 2 fm_177 := fs_methH (lp := [0]) (by decide) rfl ⟨fs_177_0, trivial⟩
theorem fP_178 : mj_P 178 = (8, 2, (some (.array .int)), mcX8_copied, []) := rfl
theorem fa_178 {pc : Nat} {e : mjE} (h : mj_at mcX8_copied pc = some e) : fAt 178 pc e := by unfold fAt; rw [fP_178]; exact h
theorem fr_178 : (mj_P 178).2.2.1 = (some (.array .int)) := by rw [fP_178]
theorem fna_178 : (mj_P 178).2.1 = 2 := by rw [fP_178]
theorem fx_178 : 2 ≤ mj_mx.getD 178 0 := by decide
theorem fh_178 : (mj_P 178).2.2.2.2.isEmpty = true := by rw [fP_178]; rfl
theorem fs_178_29 : fSB 178 [0, 6] 0 29 f_178_29 := by
  unfold f_178_29
  refine fo_aload_n (k := 2) (fa_178 rfl) ?_
  exact fo_aret (fa_178 rfl) (by rw [fr_178]; rfl)
theorem fs_178_6 : fSB 178 [0, 6] 0 6 f_178_6 := by
  unfold f_178_6
  refine fo_iload_n (k := 3) (fa_178 rfl) ?_
  refine fo_iload_n (k := 1) (fa_178 rfl) ?_
  refine fo_icmp_ge (fa_178 rfl) (pcT := 29) rfl fs_178_29 ?_
  refine fo_iload_n (k := 3) (fa_178 rfl) ?_
  refine fo_aload_n (k := 0) (fa_178 rfl) ?_
  refine fo_alen (fa_178 rfl) ?_
  refine fo_icmp_ge (fa_178 rfl) (pcT := 29) rfl fs_178_29 ?_
  refine fo_aload_n (k := 2) (fa_178 rfl) ?_
  refine fo_iload_n (k := 3) (fa_178 rfl) ?_
  refine fo_aload_n (k := 0) (fa_178 rfl) ?_
  refine fo_iload_n (k := 3) (fa_178 rfl) ?_
  refine fo_iaload (fa_178 rfl) ?_
  refine fo_iastore (fa_178 rfl) ?_
  refine fo_iinc (k := 3) (fa_178 rfl) fk_c_1 ?_
  exact fo_goto (fa_178 rfl) (pcT := 6) rfl (fo_back (q := 6) rfl)
theorem fs_178_0 : fSB 178 [0, 6] 0 0 f_178_0 := by
  unfold f_178_0
  refine fo_iload_n (k := 1) (fa_178 rfl) ?_
  refine fo_newarray (fa_178 rfl) rfl (by decide) (by decide) fel_20 ?_
  refine fo_astore_n (k := 2) (fa_178 rfl) ?_
  refine fo_iconst (fa_178 rfl) fk_c_0 ?_
  refine fo_istore_n (k := 3) (fa_178 rfl) ?_
  exact fs_178_6
theorem fsm_178 : fSM 178 0 fm_178 := fs_methH (lp := [0, 6]) (by decide) rfl ⟨fs_178_0, fs_178_6, trivial⟩
theorem fP_180 : mj_P 180 = (8, 2, (some (.array (.array .int))), mcX8_of, []) := rfl
theorem fa_180 {pc : Nat} {e : mjE} (h : mj_at mcX8_of pc = some e) : fAt 180 pc e := by unfold fAt; rw [fP_180]; exact h
theorem fr_180 : (mj_P 180).2.2.1 = (some (.array (.array .int))) := by rw [fP_180]
theorem fna_180 : (mj_P 180).2.1 = 2 := by rw [fP_180]
theorem fx_180 : 2 ≤ mj_mx.getD 180 0 := by decide
theorem fh_180 : (mj_P 180).2.2.2.2.isEmpty = true := by rw [fP_180]; rfl
theorem fs_180_27 : fSB 180 [0] 0 27 f_180_27 := by
  unfold f_180_27
  exact fo_aret (fa_180 rfl) (by rw [fr_180]; rfl)
theorem fs_180_23 : fSB 180 [0] 0 23 f_180_23 := by
  unfold f_180_23
  refine fo_aload_n (k := 0) (fa_180 rfl) ?_
  refine fo_getr (fa_180 rfl) (by decide) rfl ?_
  exact fs_180_27
theorem fs_180_11 : fSB 180 [0] 0 11 f_180_11 := by
  unfold f_180_11
  refine fo_iload_n (k := 1) (fa_180 rfl) ?_
  refine fo_iconst (fa_180 rfl) fk_c_1 ?_
  refine fo_icmp_ne (fa_180 rfl) (pcT := 23) rfl fs_180_23 ?_
  refine fo_aload_n (k := 0) (fa_180 rfl) ?_
  refine fo_getr (fa_180 rfl) (by decide) rfl ?_
  exact fo_goto (fa_180 rfl) (pcT := 27) rfl fs_180_27
theorem fs_180_0 : fSB 180 [0] 0 0 f_180_0 := by
  unfold f_180_0
  refine fo_iload_n (k := 1) (fa_180 rfl) ?_
  refine fo_if_ne (fa_180 rfl) (pcT := 11) rfl fs_180_11 ?_
  refine fo_aload_n (k := 0) (fa_180 rfl) ?_
  refine fo_getr (fa_180 rfl) (by decide) rfl ?_
  exact fo_goto (fa_180 rfl) (pcT := 27) rfl fs_180_27
theorem fsm_180 : fSM 180 0 fm_180 := fs_methH (lp := [0]) (by decide) rfl ⟨fs_180_0, trivial⟩
theorem fP_179 : mj_P 179 = (8, 4, none, mcX8_becomes, []) := rfl
theorem fa_179 {pc : Nat} {e : mjE} (h : mj_at mcX8_becomes pc = some e) : fAt 179 pc e := by unfold fAt; rw [fP_179]; exact h
theorem fr_179 : (mj_P 179).2.2.1 = none := by rw [fP_179]
theorem fna_179 : (mj_P 179).2.1 = 4 := by rw [fP_179]
theorem fx_179 : 4 ≤ mj_mx.getD 179 0 := by decide
theorem fh_179 : (mj_P 179).2.2.2.2.isEmpty = true := by rw [fP_179]; rfl
theorem fs_179_83 : fSB 179 [0, 12] 1 83 f_179_83 := by
  unfold f_179_83
  refine fo_aload_n (k := 0) (fa_179 rfl) ?_
  refine fo_getr (fa_179 rfl) (by decide) rfl ?_
  refine fo_aload_n (k := 0) (fa_179 rfl) ?_
  refine fo_geti (fa_179 rfl) (by decide) rfl ?_
  refine fo_iload_n (k := 1) (fa_179 rfl) ?_
  refine fo_iastore (fa_179 rfl) ?_
  refine fo_aload_n (k := 0) (fa_179 rfl) ?_
  refine fo_getr (fa_179 rfl) (by decide) rfl ?_
  refine fo_aload_n (k := 0) (fa_179 rfl) ?_
  refine fo_geti (fa_179 rfl) (by decide) rfl ?_
  refine fo_iload_n (k := 2) (fa_179 rfl) ?_
  refine fo_iastore (fa_179 rfl) ?_
  refine fo_aload_n (k := 0) (fa_179 rfl) ?_
  refine fo_getr (fa_179 rfl) (by decide) rfl ?_
  refine fo_aload_n (k := 0) (fa_179 rfl) ?_
  refine fo_geti (fa_179 rfl) (by decide) rfl ?_
  refine fo_aload_n (k := 0) (fa_179 rfl) ?_
  refine fo_iload_n (k := 1) (fa_179 rfl) ?_
  refine fo_virtual (by decide) fna_180 (fo_call (fa_179 rfl) fNs_virtual fsm_180 (by decide) fFil_0 fna_180 fx_180 (by rw [fP_180]; rfl) fh_179 ?_)
  refine fo_iload_n (k := 2) (fa_179 rfl) ?_
  refine fo_aaload (fa_179 rfl) (by decide) (by decide) ?_
  refine fo_aastore (fa_179 rfl) (by decide) (by decide) (by decide) ?_
  refine fo_aload_n (k := 0) (fa_179 rfl) ?_
  refine fo_dup (fa_179 rfl) ?_
  refine fo_geti (fa_179 rfl) (by decide) rfl ?_
  refine fo_iconst (fa_179 rfl) fk_c_1 ?_
  refine fo_iadd (fa_179 rfl) ?_
  refine fo_puti (fa_179 rfl) (by decide) rfl ?_
  refine fo_aload_n (k := 0) (fa_179 rfl) ?_
  refine fo_iload_n (k := 1) (fa_179 rfl) ?_
  refine fo_virtual (by decide) fna_180 (fo_call (fa_179 rfl) fNs_virtual fsm_180 (by decide) fFil_0 fna_180 fx_180 (by rw [fP_180]; rfl) fh_179 ?_)
  refine fo_iload_n (k := 2) (fa_179 rfl) ?_
  refine fo_aload_n (k := 3) (fa_179 rfl) ?_
  refine fo_aastore (fa_179 rfl) (by decide) (by decide) (by decide) ?_
  exact fo_ret (fa_179 rfl) fr_179
theorem fs_179_73 : fSB 179 [0, 12] 1 73 f_179_73 := by
  unfold f_179_73
  refine fo_aload_n (k := 0) (fa_179 rfl) ?_
  refine fo_dup (fa_179 rfl) ?_
  refine fo_geti (fa_179 rfl) (by decide) rfl ?_
  refine fo_iconst (fa_179 rfl) fk_c_1 ?_
  refine fo_isub (fa_179 rfl) ?_
  refine fo_puti (fa_179 rfl) (by decide) rfl ?_
  exact fs_179_83
theorem fs_179_12 : fSB 179 [0, 12] 1 12 f_179_12 := by
  unfold f_179_12
  refine fo_iload (k := 4) (fa_179 rfl) ?_
  refine fo_bipush (fa_179 rfl) fk_b_8 ?_
  refine fo_icmp_ge (fa_179 rfl) (pcT := 73) rfl fs_179_73 ?_
  refine fo_aload_n (k := 0) (fa_179 rfl) ?_
  refine fo_getr (fa_179 rfl) (by decide) rfl ?_
  refine fo_iload (k := 4) (fa_179 rfl) ?_
  refine fo_iconst (fa_179 rfl) fk_c_1 ?_
  refine fo_isub (fa_179 rfl) ?_
  refine fo_aload_n (k := 0) (fa_179 rfl) ?_
  refine fo_getr (fa_179 rfl) (by decide) rfl ?_
  refine fo_iload (k := 4) (fa_179 rfl) ?_
  refine fo_iaload (fa_179 rfl) ?_
  refine fo_iastore (fa_179 rfl) ?_
  refine fo_aload_n (k := 0) (fa_179 rfl) ?_
  refine fo_getr (fa_179 rfl) (by decide) rfl ?_
  refine fo_iload (k := 4) (fa_179 rfl) ?_
  refine fo_iconst (fa_179 rfl) fk_c_1 ?_
  refine fo_isub (fa_179 rfl) ?_
  refine fo_aload_n (k := 0) (fa_179 rfl) ?_
  refine fo_getr (fa_179 rfl) (by decide) rfl ?_
  refine fo_iload (k := 4) (fa_179 rfl) ?_
  refine fo_iaload (fa_179 rfl) ?_
  refine fo_iastore (fa_179 rfl) ?_
  refine fo_aload_n (k := 0) (fa_179 rfl) ?_
  refine fo_getr (fa_179 rfl) (by decide) rfl ?_
  refine fo_iload (k := 4) (fa_179 rfl) ?_
  refine fo_iconst (fa_179 rfl) fk_c_1 ?_
  refine fo_isub (fa_179 rfl) ?_
  refine fo_aload_n (k := 0) (fa_179 rfl) ?_
  refine fo_getr (fa_179 rfl) (by decide) rfl ?_
  refine fo_iload (k := 4) (fa_179 rfl) ?_
  refine fo_aaload (fa_179 rfl) (by decide) (by decide) ?_
  refine fo_aastore (fa_179 rfl) (by decide) (by decide) (by decide) ?_
  refine fo_iinc (k := 4) (fa_179 rfl) fk_c_1 ?_
  exact fo_goto (fa_179 rfl) (pcT := 12) rfl (fo_back (q := 12) rfl)
theorem fs_179_0 : fSB 179 [0, 12] 1 0 f_179_0 := by
  unfold f_179_0
  refine fo_aload_n (k := 0) (fa_179 rfl) ?_
  refine fo_geti (fa_179 rfl) (by decide) rfl ?_
  refine fo_bipush (fa_179 rfl) fk_b_8 ?_
  refine fo_icmp_ne (fa_179 rfl) (pcT := 83) rfl fs_179_83 ?_
  refine fo_iconst (fa_179 rfl) fk_c_1 ?_
  refine fo_istore (k := 4) (fa_179 rfl) ?_
  exact fs_179_12
theorem fsm_179 : fSM 179 1 fm_179 := fs_methH (lp := [0, 12]) (by decide) rfl ⟨fs_179_0, fs_179_12, trivial⟩
theorem fP_181 : mj_P 181 = (8, 3, (some .int), mcX8_becomesDesign, []) := rfl
theorem fa_181 {pc : Nat} {e : mjE} (h : mj_at mcX8_becomesDesign pc = some e) : fAt 181 pc e := by unfold fAt; rw [fP_181]; exact h
theorem fr_181 : (mj_P 181).2.2.1 = (some .int) := by rw [fP_181]
theorem fna_181 : (mj_P 181).2.1 = 3 := by rw [fP_181]
theorem fx_181 : 3 ≤ mj_mx.getD 181 0 := by decide
theorem fh_181 : (mj_P 181).2.2.2.2.isEmpty = true := by rw [fP_181]; rfl
theorem fs_181_0 : fSB 181 [0] 2 0 f_181_0 := by
  unfold f_181_0
  refine fo_aload_n (k := 0) (fa_181 rfl) ?_
  refine fo_iconst (fa_181 rfl) fk_c_0 ?_
  refine fo_iload_n (k := 1) (fa_181 rfl) ?_
  refine fo_aload_n (k := 2) (fa_181 rfl) ?_
  refine fo_virtual (by decide) fna_179 (fo_call (fa_181 rfl) fNs_virtual fsm_179 (by decide) fFil_1 fna_179 fx_179 (by rw [fP_179]; rfl) fh_181 ?_)
  refine fo_aload_n (k := 2) (fa_181 rfl) ?_
  refine fo_alen (fa_181 rfl) ?_
  refine fo_iconst (fa_181 rfl) fk_c_1 ?_
  refine fo_isub (fa_181 rfl) ?_
  exact fo_iret (fa_181 rfl) fr_181 fw_int
theorem fsm_181 : fSM 181 2 fm_181 := fs_methH (lp := [0]) (by decide) rfl ⟨fs_181_0, trivial⟩
theorem fP_182 : mj_P 182 = (8, 1, (some .int), mcX8_manyOf, []) := rfl
theorem fa_182 {pc : Nat} {e : mjE} (h : mj_at mcX8_manyOf pc = some e) : fAt 182 pc e := by unfold fAt; rw [fP_182]; exact h
theorem fr_182 : (mj_P 182).2.2.1 = (some .int) := by rw [fP_182]
theorem fna_182 : (mj_P 182).2.1 = 1 := by rw [fP_182]
theorem fx_182 : 1 ≤ mj_mx.getD 182 0 := by decide
theorem fh_182 : (mj_P 182).2.2.2.2.isEmpty = true := by rw [fP_182]; rfl
theorem fs_182_24 : fSB 182 [0, 4] 0 24 f_182_24 := by
  unfold f_182_24
  refine fo_iload_n (k := 1) (fa_182 rfl) ?_
  exact fo_iret (fa_182 rfl) fr_182 fw_int
theorem fs_182_4 : fSB 182 [0, 4] 0 4 f_182_4 := by
  unfold f_182_4
  refine fo_iload_n (k := 2) (fa_182 rfl) ?_
  refine fo_bipush (fa_182 rfl) fk_b_31 ?_
  refine fo_icmp_ge (fa_182 rfl) (pcT := 24) rfl fs_182_24 ?_
  refine fo_iload_n (k := 1) (fa_182 rfl) ?_
  refine fo_iload_n (k := 0) (fa_182 rfl) ?_
  refine fo_iload_n (k := 2) (fa_182 rfl) ?_
  refine fo_ishr (fa_182 rfl) ?_
  refine fo_iconst (fa_182 rfl) fk_c_1 ?_
  refine fo_iand (fa_182 rfl) ?_
  refine fo_iadd (fa_182 rfl) ?_
  refine fo_istore_n (k := 1) (fa_182 rfl) ?_
  refine fo_iinc (k := 2) (fa_182 rfl) fk_c_1 ?_
  exact fo_goto (fa_182 rfl) (pcT := 4) rfl (fo_back (q := 4) rfl)
theorem fs_182_0 : fSB 182 [0, 4] 0 0 f_182_0 := by
  unfold f_182_0
  refine fo_iconst (fa_182 rfl) fk_c_0 ?_
  refine fo_istore_n (k := 1) (fa_182 rfl) ?_
  refine fo_iconst (fa_182 rfl) fk_c_0 ?_
  refine fo_istore_n (k := 2) (fa_182 rfl) ?_
  exact fs_182_4
theorem fsm_182 : fSM 182 0 fm_182 := fs_methH (lp := [0, 4]) (by decide) rfl ⟨fs_182_0, fs_182_4, trivial⟩
theorem fP_183 : mj_P 183 = (8, 1, (some .int), mcX8_allOf, []) := rfl
theorem fa_183 {pc : Nat} {e : mjE} (h : mj_at mcX8_allOf pc = some e) : fAt 183 pc e := by unfold fAt; rw [fP_183]; exact h
theorem fr_183 : (mj_P 183).2.2.1 = (some .int) := by rw [fP_183]
theorem fna_183 : (mj_P 183).2.1 = 1 := by rw [fP_183]
theorem fx_183 : 1 ≤ mj_mx.getD 183 0 := by decide
theorem fh_183 : (mj_P 183).2.2.2.2.isEmpty = true := by rw [fP_183]; rfl
theorem fs_183_0 : fSB 183 [0] 0 0 f_183_0 := by
  unfold f_183_0
  refine fo_lconst (fa_183 rfl) rfl ?_
  refine fo_iload_n (k := 0) (fa_183 rfl) ?_
  refine fo_lshl (fa_183 rfl) ?_
  refine fo_lconst (fa_183 rfl) rfl ?_
  refine fo_lsub (fa_183 rfl) ?_
  refine fo_l2i (fa_183 rfl) ?_
  exact fo_iret (fa_183 rfl) fr_183 fw_int
theorem fsm_183 : fSM 183 0 fm_183 := fs_methH (lp := [0]) (by decide) rfl ⟨fs_183_0, trivial⟩
theorem fP_184 : mj_P 184 = (8, 2, (some .boolean), mcX8_areBits, []) := rfl
theorem fa_184 {pc : Nat} {e : mjE} (h : mj_at mcX8_areBits pc = some e) : fAt 184 pc e := by unfold fAt; rw [fP_184]; exact h
theorem fr_184 : (mj_P 184).2.2.1 = (some .boolean) := by rw [fP_184]
theorem fna_184 : (mj_P 184).2.1 = 2 := by rw [fP_184]
theorem fx_184 : 2 ≤ mj_mx.getD 184 0 := by decide
theorem fh_184 : (mj_P 184).2.2.2.2.isEmpty = true := by rw [fP_184]; rfl
theorem fs_184_0 : fSB 184 [0] 1 0 f_184_0 := by
  unfold f_184_0
  refine fo_iload_n (k := 0) (fa_184 rfl) ?_
  refine fo_i2l (fa_184 rfl) ?_
  refine fo_lconst (fa_184 rfl) rfl ?_
  refine fo_iload_n (k := 1) (fa_184 rfl) ?_
  refine fo_static (by decide) (fo_call (fa_184 rfl) fNs_static fsm_183 (by decide) fFil_0 fna_183 fx_183 (by rw [fP_183]; rfl) fh_184 ?_)
  refine fo_i2l (fa_184 rfl) ?_
  refine fo_static (by decide) (fo_call (fa_184 rfl) fNs_static fsm_172 (by decide) fFil_0 fna_172 fx_172 (by rw [fP_172]; rfl) fh_184 ?_)
  exact fo_iret (fa_184 rfl) fr_184 fw_bool
theorem fsm_184 : fSM 184 1 fm_184 := fs_methH (lp := [0]) (by decide) rfl ⟨fs_184_0, trivial⟩
theorem fP_185 : mj_P 185 = (8, 1, (some .boolean), mcX8_isField, []) := rfl
theorem fa_185 {pc : Nat} {e : mjE} (h : mj_at mcX8_isField pc = some e) : fAt 185 pc e := by unfold fAt; rw [fP_185]; exact h
theorem fr_185 : (mj_P 185).2.2.1 = (some .boolean) := by rw [fP_185]
theorem fna_185 : (mj_P 185).2.1 = 1 := by rw [fP_185]
theorem fx_185 : 1 ≤ mj_mx.getD 185 0 := by decide
theorem fh_185 : (mj_P 185).2.2.2.2.isEmpty = true := by rw [fP_185]; rfl
theorem fs_185_33 : fSB 185 [0] 1 33 f_185_33 := by
  unfold f_185_33
  exact fo_iret (fa_185 rfl) fr_185 fw_bool
theorem fs_185_32 : fSB 185 [0] 1 32 f_185_32 := by
  unfold f_185_32
  refine fo_iconst (fa_185 rfl) fk_c_0 ?_
  exact fs_185_33
theorem fs_185_28 : fSB 185 [0] 1 28 f_185_28 := by
  unfold f_185_28
  refine fo_iconst (fa_185 rfl) fk_c_1 ?_
  exact fo_goto (fa_185 rfl) (pcT := 33) rfl fs_185_33
theorem fs_185_0 : fSB 185 [0] 1 0 f_185_0 := by
  unfold f_185_0
  refine fo_iload_n (k := 0) (fa_185 rfl) ?_
  refine fo_i2l (fa_185 rfl) ?_
  refine fo_ldc2 (fa_185 rfl) ?_
  refine fo_ldc2 (fa_185 rfl) ?_
  refine fo_static (by decide) (fo_call (fa_185 rfl) fNs_static fsm_172 (by decide) fFil_0 fna_172 fx_172 (by rw [fP_172]; rfl) fh_185 ?_)
  refine fo_if_ne (fa_185 rfl) (pcT := 28) rfl fs_185_28 ?_
  refine fo_iload_n (k := 0) (fa_185 rfl) ?_
  refine fo_i2l (fa_185 rfl) ?_
  refine fo_ldc2 (fa_185 rfl) ?_
  refine fo_ldc2 (fa_185 rfl) ?_
  refine fo_static (by decide) (fo_call (fa_185 rfl) fNs_static fsm_172 (by decide) fFil_0 fna_172 fx_172 (by rw [fP_172]; rfl) fh_185 ?_)
  refine fo_if_eq (fa_185 rfl) (pcT := 32) rfl fs_185_32 ?_
  exact fs_185_28
theorem fsm_185 : fSM 185 1 fm_185 := fs_methH (lp := [0]) (by decide) rfl ⟨fs_185_0, trivial⟩
theorem fP_186 : mj_P 186 = (8, 3, (some .int), mcX8_plus, []) := rfl
theorem fa_186 {pc : Nat} {e : mjE} (h : mj_at mcX8_plus pc = some e) : fAt 186 pc e := by unfold fAt; rw [fP_186]; exact h
theorem fr_186 : (mj_P 186).2.2.1 = (some .int) := by rw [fP_186]
theorem fna_186 : (mj_P 186).2.1 = 3 := by rw [fP_186]
theorem fx_186 : 3 ≤ mj_mx.getD 186 0 := by decide
theorem fh_186 : (mj_P 186).2.2.2.2.isEmpty = true := by rw [fP_186]; rfl
theorem fs_186_50 : fSB 186 [0] 0 50 f_186_50 := by
  unfold f_186_50
  exact fo_iret (fa_186 rfl) fr_186 fw_int
theorem fs_186_45 : fSB 186 [0] 0 45 f_186_45 := by
  unfold f_186_45
  refine fo_iload_n (k := 1) (fa_186 rfl) ?_
  refine fo_iload_n (k := 2) (fa_186 rfl) ?_
  refine fo_iadd (fa_186 rfl) ?_
  refine fo_iload_n (k := 0) (fa_186 rfl) ?_
  refine fo_irem (fa_186 rfl) ?_
  exact fs_186_50
theorem fs_186_15 : fSB 186 [0] 0 15 f_186_15 := by
  unfold f_186_15
  refine fo_iload_n (k := 0) (fa_186 rfl) ?_
  refine fo_bipush (fa_186 rfl) fk_b_9 ?_
  refine fo_icmp_ne (fa_186 rfl) (pcT := 45) rfl fs_186_45 ?_
  refine fo_iconst (fa_186 rfl) fk_c_3 ?_
  refine fo_iload_n (k := 1) (fa_186 rfl) ?_
  refine fo_iconst (fa_186 rfl) fk_c_3 ?_
  refine fo_idiv (fa_186 rfl) ?_
  refine fo_iload_n (k := 2) (fa_186 rfl) ?_
  refine fo_iconst (fa_186 rfl) fk_c_3 ?_
  refine fo_idiv (fa_186 rfl) ?_
  refine fo_iadd (fa_186 rfl) ?_
  refine fo_iconst (fa_186 rfl) fk_c_3 ?_
  refine fo_irem (fa_186 rfl) ?_
  refine fo_imul (fa_186 rfl) ?_
  refine fo_iload_n (k := 1) (fa_186 rfl) ?_
  refine fo_iconst (fa_186 rfl) fk_c_3 ?_
  refine fo_irem (fa_186 rfl) ?_
  refine fo_iload_n (k := 2) (fa_186 rfl) ?_
  refine fo_iconst (fa_186 rfl) fk_c_3 ?_
  refine fo_irem (fa_186 rfl) ?_
  refine fo_iadd (fa_186 rfl) ?_
  refine fo_iconst (fa_186 rfl) fk_c_3 ?_
  refine fo_irem (fa_186 rfl) ?_
  refine fo_iadd (fa_186 rfl) ?_
  exact fo_goto (fa_186 rfl) (pcT := 50) rfl fs_186_50
theorem fs_186_11 : fSB 186 [0] 0 11 f_186_11 := by
  unfold f_186_11
  refine fo_iload_n (k := 1) (fa_186 rfl) ?_
  refine fo_iload_n (k := 2) (fa_186 rfl) ?_
  refine fo_ixor (fa_186 rfl) ?_
  exact fo_iret (fa_186 rfl) fr_186 fw_int
theorem fs_186_0 : fSB 186 [0] 0 0 f_186_0 := by
  unfold f_186_0
  refine fo_iload_n (k := 0) (fa_186 rfl) ?_
  refine fo_iconst (fa_186 rfl) fk_c_4 ?_
  refine fo_icmp_eq (fa_186 rfl) (pcT := 11) rfl fs_186_11 ?_
  refine fo_iload_n (k := 0) (fa_186 rfl) ?_
  refine fo_bipush (fa_186 rfl) fk_b_8 ?_
  refine fo_icmp_ne (fa_186 rfl) (pcT := 15) rfl fs_186_15 ?_
  exact fs_186_11
theorem fsm_186 : fSM 186 0 fm_186 := fs_methH (lp := [0]) (by decide) rfl ⟨fs_186_0, trivial⟩
theorem fP_187 : mj_P 187 = (8, 3, (some .int), mcX8_by, []) := rfl
theorem fa_187 {pc : Nat} {e : mjE} (h : mj_at mcX8_by pc = some e) : fAt 187 pc e := by unfold fAt; rw [fP_187]; exact h
theorem fr_187 : (mj_P 187).2.2.1 = (some .int) := by rw [fP_187]
theorem fna_187 : (mj_P 187).2.1 = 3 := by rw [fP_187]
theorem fx_187 : 3 ≤ mj_mx.getD 187 0 := by decide
theorem fh_187 : (mj_P 187).2.2.2.2.isEmpty = true := by rw [fP_187]; rfl
theorem fs_187_168 : fSB 187 [0, 86, 128] 0 168 f_187_168 := by
  unfold f_187_168
  refine fo_iload (k := 4) (fa_187 rfl) ?_
  exact fo_iret (fa_187 rfl) fr_187 fw_int
theorem fs_187_159 : fSB 187 [0, 86, 128] 0 159 f_187_159 := by
  unfold f_187_159
  refine fo_ixor (fa_187 rfl) ?_
  refine fo_istore (k := 4) (fa_187 rfl) ?_
  refine fo_iinc (k := 5) (fa_187 rfl) fk_c_m1 ?_
  exact fo_goto (fa_187 rfl) (pcT := 128) rfl (fo_back (q := 128) rfl)
theorem fs_187_158 : fSB 187 [0, 86, 128] 0 158 f_187_158 := by
  unfold f_187_158
  refine fo_iconst (fa_187 rfl) fk_c_0 ?_
  exact fs_187_159
theorem fs_187_128 : fSB 187 [0, 86, 128] 0 128 f_187_128 := by
  unfold f_187_128
  refine fo_iload (k := 5) (fa_187 rfl) ?_
  refine fo_iload_n (k := 3) (fa_187 rfl) ?_
  refine fo_icmp_lt (fa_187 rfl) (pcT := 168) rfl fs_187_168 ?_
  refine fo_iload (k := 4) (fa_187 rfl) ?_
  refine fo_iload (k := 4) (fa_187 rfl) ?_
  refine fo_iload (k := 5) (fa_187 rfl) ?_
  refine fo_ishr (fa_187 rfl) ?_
  refine fo_iconst (fa_187 rfl) fk_c_1 ?_
  refine fo_iand (fa_187 rfl) ?_
  refine fo_iconst (fa_187 rfl) fk_c_1 ?_
  refine fo_icmp_ne (fa_187 rfl) (pcT := 158) rfl fs_187_158 ?_
  refine fo_iload_n (k := 0) (fa_187 rfl) ?_
  refine fo_iconst (fa_187 rfl) fk_c_3 ?_
  refine fo_iadd (fa_187 rfl) ?_
  refine fo_iload (k := 5) (fa_187 rfl) ?_
  refine fo_iload_n (k := 3) (fa_187 rfl) ?_
  refine fo_isub (fa_187 rfl) ?_
  refine fo_ishl (fa_187 rfl) ?_
  exact fo_goto (fa_187 rfl) (pcT := 159) rfl fs_187_159
theorem fs_187_121 : fSB 187 [0, 86, 128] 0 121 f_187_121 := by
  unfold f_187_121
  refine fo_iconst (fa_187 rfl) fk_c_2 ?_
  refine fo_iload_n (k := 3) (fa_187 rfl) ?_
  refine fo_imul (fa_187 rfl) ?_
  refine fo_iconst (fa_187 rfl) fk_c_2 ?_
  refine fo_isub (fa_187 rfl) ?_
  refine fo_istore (k := 5) (fa_187 rfl) ?_
  exact fs_187_128
theorem fs_187_112 : fSB 187 [0, 86, 128] 0 112 f_187_112 := by
  unfold f_187_112
  refine fo_ixor (fa_187 rfl) ?_
  refine fo_istore (k := 4) (fa_187 rfl) ?_
  refine fo_iinc (k := 5) (fa_187 rfl) fk_c_1 ?_
  exact fo_goto (fa_187 rfl) (pcT := 86) rfl (fo_back (q := 86) rfl)
theorem fs_187_111 : fSB 187 [0, 86, 128] 0 111 f_187_111 := by
  unfold f_187_111
  refine fo_iconst (fa_187 rfl) fk_c_0 ?_
  exact fs_187_112
theorem fs_187_86 : fSB 187 [0, 86, 128] 0 86 f_187_86 := by
  unfold f_187_86
  refine fo_iload (k := 5) (fa_187 rfl) ?_
  refine fo_iload_n (k := 3) (fa_187 rfl) ?_
  refine fo_icmp_ge (fa_187 rfl) (pcT := 121) rfl fs_187_121 ?_
  refine fo_iload (k := 4) (fa_187 rfl) ?_
  refine fo_iload_n (k := 2) (fa_187 rfl) ?_
  refine fo_iload (k := 5) (fa_187 rfl) ?_
  refine fo_ishr (fa_187 rfl) ?_
  refine fo_iconst (fa_187 rfl) fk_c_1 ?_
  refine fo_iand (fa_187 rfl) ?_
  refine fo_iconst (fa_187 rfl) fk_c_1 ?_
  refine fo_icmp_ne (fa_187 rfl) (pcT := 111) rfl fs_187_111 ?_
  refine fo_iload_n (k := 1) (fa_187 rfl) ?_
  refine fo_iload (k := 5) (fa_187 rfl) ?_
  refine fo_ishl (fa_187 rfl) ?_
  exact fo_goto (fa_187 rfl) (pcT := 112) rfl fs_187_112
theorem fs_187_79 : fSB 187 [0, 86, 128] 0 79 f_187_79 := by
  unfold f_187_79
  refine fo_istore_n (k := 3) (fa_187 rfl) ?_
  refine fo_iconst (fa_187 rfl) fk_c_0 ?_
  refine fo_istore (k := 4) (fa_187 rfl) ?_
  refine fo_iconst (fa_187 rfl) fk_c_0 ?_
  refine fo_istore (k := 5) (fa_187 rfl) ?_
  exact fs_187_86
theorem fs_187_78 : fSB 187 [0, 86, 128] 0 78 f_187_78 := by
  unfold f_187_78
  refine fo_iconst (fa_187 rfl) fk_c_3 ?_
  exact fs_187_79
theorem fs_187_69 : fSB 187 [0, 86, 128] 0 69 f_187_69 := by
  unfold f_187_69
  refine fo_iload_n (k := 0) (fa_187 rfl) ?_
  refine fo_iconst (fa_187 rfl) fk_c_4 ?_
  refine fo_icmp_ne (fa_187 rfl) (pcT := 78) rfl fs_187_78 ?_
  refine fo_iconst (fa_187 rfl) fk_c_2 ?_
  exact fo_goto (fa_187 rfl) (pcT := 79) rfl fs_187_79
theorem fs_187_52 : fSB 187 [0, 86, 128] 0 52 f_187_52 := by
  unfold f_187_52
  refine fo_iload_n (k := 0) (fa_187 rfl) ?_
  refine fo_iconst (fa_187 rfl) fk_c_4 ?_
  refine fo_icmp_eq (fa_187 rfl) (pcT := 69) rfl fs_187_69 ?_
  refine fo_iload_n (k := 0) (fa_187 rfl) ?_
  refine fo_bipush (fa_187 rfl) fk_b_8 ?_
  refine fo_icmp_eq (fa_187 rfl) (pcT := 69) rfl fs_187_69 ?_
  refine fo_iload_n (k := 1) (fa_187 rfl) ?_
  refine fo_iload_n (k := 2) (fa_187 rfl) ?_
  refine fo_imul (fa_187 rfl) ?_
  refine fo_iload_n (k := 0) (fa_187 rfl) ?_
  refine fo_irem (fa_187 rfl) ?_
  exact fo_iret (fa_187 rfl) fr_187 fw_int
theorem fs_187_0 : fSB 187 [0, 86, 128] 0 0 f_187_0 := by
  unfold f_187_0
  refine fo_iload_n (k := 0) (fa_187 rfl) ?_
  refine fo_bipush (fa_187 rfl) fk_b_9 ?_
  refine fo_icmp_ne (fa_187 rfl) (pcT := 52) rfl fs_187_52 ?_
  refine fo_iload_n (k := 1) (fa_187 rfl) ?_
  refine fo_iconst (fa_187 rfl) fk_c_3 ?_
  refine fo_idiv (fa_187 rfl) ?_
  refine fo_iload_n (k := 2) (fa_187 rfl) ?_
  refine fo_iconst (fa_187 rfl) fk_c_3 ?_
  refine fo_irem (fa_187 rfl) ?_
  refine fo_imul (fa_187 rfl) ?_
  refine fo_iload_n (k := 1) (fa_187 rfl) ?_
  refine fo_iconst (fa_187 rfl) fk_c_3 ?_
  refine fo_irem (fa_187 rfl) ?_
  refine fo_iload_n (k := 2) (fa_187 rfl) ?_
  refine fo_iconst (fa_187 rfl) fk_c_3 ?_
  refine fo_idiv (fa_187 rfl) ?_
  refine fo_imul (fa_187 rfl) ?_
  refine fo_iadd (fa_187 rfl) ?_
  refine fo_istore_n (k := 3) (fa_187 rfl) ?_
  refine fo_iload_n (k := 1) (fa_187 rfl) ?_
  refine fo_iconst (fa_187 rfl) fk_c_3 ?_
  refine fo_irem (fa_187 rfl) ?_
  refine fo_iload_n (k := 2) (fa_187 rfl) ?_
  refine fo_iconst (fa_187 rfl) fk_c_3 ?_
  refine fo_irem (fa_187 rfl) ?_
  refine fo_imul (fa_187 rfl) ?_
  refine fo_iconst (fa_187 rfl) fk_c_2 ?_
  refine fo_iload_n (k := 1) (fa_187 rfl) ?_
  refine fo_iconst (fa_187 rfl) fk_c_3 ?_
  refine fo_idiv (fa_187 rfl) ?_
  refine fo_imul (fa_187 rfl) ?_
  refine fo_iload_n (k := 2) (fa_187 rfl) ?_
  refine fo_iconst (fa_187 rfl) fk_c_3 ?_
  refine fo_idiv (fa_187 rfl) ?_
  refine fo_imul (fa_187 rfl) ?_
  refine fo_iadd (fa_187 rfl) ?_
  refine fo_istore (k := 4) (fa_187 rfl) ?_
  refine fo_iconst (fa_187 rfl) fk_c_3 ?_
  refine fo_iload_n (k := 3) (fa_187 rfl) ?_
  refine fo_iconst (fa_187 rfl) fk_c_3 ?_
  refine fo_irem (fa_187 rfl) ?_
  refine fo_imul (fa_187 rfl) ?_
  refine fo_iload (k := 4) (fa_187 rfl) ?_
  refine fo_iconst (fa_187 rfl) fk_c_3 ?_
  refine fo_irem (fa_187 rfl) ?_
  refine fo_iadd (fa_187 rfl) ?_
  exact fo_iret (fa_187 rfl) fr_187 fw_int
theorem fsm_187 : fSM 187 0 fm_187 := fs_methH (lp := [0, 86, 128]) (by decide) rfl ⟨fs_187_0, fs_187_86, fs_187_128, trivial⟩
theorem fP_188 : mj_P 188 = (8, 3, (some .int), mcX8_blank, []) := rfl
theorem fa_188 {pc : Nat} {e : mjE} (h : mj_at mcX8_blank pc = some e) : fAt 188 pc e := by unfold fAt; rw [fP_188]; exact h
theorem fr_188 : (mj_P 188).2.2.1 = (some .int) := by rw [fP_188]
theorem fna_188 : (mj_P 188).2.1 = 3 := by rw [fP_188]
theorem fx_188 : 3 ≤ mj_mx.getD 188 0 := by decide
theorem fh_188 : (mj_P 188).2.2.2.2.isEmpty = true := by rw [fP_188]; rfl
theorem fs_188_40 : fSB 188 [0] 3 40 f_188_40 := by
  unfold f_188_40
  refine fo_aload_n (k := 0) (fa_188 rfl) ?_
  refine fo_iload_n (k := 1) (fa_188 rfl) ?_
  refine fo_iconst (fa_188 rfl) fk_c_1 ?_
  refine fo_newarray (fa_188 rfl) rfl (by decide) (by decide) fel_20 ?_
  refine fo_dup (fa_188 rfl) ?_
  refine fo_iconst (fa_188 rfl) fk_c_0 ?_
  refine fo_iload_n (k := 2) (fa_188 rfl) ?_
  refine fo_iastore (fa_188 rfl) ?_
  refine fo_virtual (by decide) fna_181 (fo_call (fa_188 rfl) fNs_virtual fsm_181 (by decide) fFil_0 fna_181 fx_181 (by rw [fP_181]; rfl) fh_188 ?_)
  refine fo_istore_n (k := 3) (fa_188 rfl) ?_
  refine fo_iload_n (k := 2) (fa_188 rfl) ?_
  exact fo_iret (fa_188 rfl) fr_188 fw_int
theorem fs_188_30 : fSB 188 [0] 3 30 f_188_30 := by
  unfold f_188_30
  refine fo_iconst (fa_188 rfl) fk_c_0 ?_
  refine fo_iconst (fa_188 rfl) fk_c_0 ?_
  refine fo_virtual (by decide) fna_171 (fo_call (fa_188 rfl) fNs_virtual fsm_171 (by decide) fFil_0 fna_171 fx_171 (by rw [fP_171]; rfl) fh_188 ?_)
  refine fo_if_eq (fa_188 rfl) (pcT := 40) rfl fs_188_40 ?_
  refine fo_iconst (fa_188 rfl) fk_c_0 ?_
  exact fo_iret (fa_188 rfl) fr_188 fw_int
theorem fs_188_29 : fSB 188 [0] 3 29 f_188_29 := by
  unfold f_188_29
  refine fo_iconst (fa_188 rfl) fk_c_0 ?_
  exact fs_188_30
theorem fs_188_13 : fSB 188 [0] 3 13 f_188_13 := by
  unfold f_188_13
  refine fo_iload_n (k := 2) (fa_188 rfl) ?_
  refine fo_i2l (fa_188 rfl) ?_
  refine fo_lconst (fa_188 rfl) rfl ?_
  refine fo_ldc2 (fa_188 rfl) ?_
  refine fo_static (by decide) (fo_call (fa_188 rfl) fNs_static fsm_172 (by decide) fFil_0 fna_172 fx_172 (by rw [fP_172]; rfl) fh_188 ?_)
  refine fo_if_ne (fa_188 rfl) (pcT := 29) rfl fs_188_29 ?_
  refine fo_iconst (fa_188 rfl) fk_c_1 ?_
  exact fo_goto (fa_188 rfl) (pcT := 30) rfl fs_188_30
theorem fs_188_12 : fSB 188 [0] 3 12 f_188_12 := by
  unfold f_188_12
  refine fo_iconst (fa_188 rfl) fk_c_0 ?_
  exact fs_188_13
theorem fs_188_0 : fSB 188 [0] 3 0 f_188_0 := by
  unfold f_188_0
  refine fo_aload_n (k := 0) (fa_188 rfl) ?_
  refine fo_iload_n (k := 1) (fa_188 rfl) ?_
  refine fo_static (by decide) (fo_call (fa_188 rfl) fNs_static fsm_173 (by decide) fFil_0 fna_173 fx_173 (by rw [fP_173]; rfl) fh_188 ?_)
  refine fo_if_ne (fa_188 rfl) (pcT := 12) rfl fs_188_12 ?_
  refine fo_iconst (fa_188 rfl) fk_c_1 ?_
  exact fo_goto (fa_188 rfl) (pcT := 13) rfl fs_188_13
theorem fsm_188 : fSM 188 3 fm_188 := fs_methH (lp := [0]) (by decide) rfl ⟨fs_188_0, trivial⟩
theorem fP_189 : mj_P 189 = (8, 3, (some .int), mcX8_block, []) := rfl
theorem fa_189 {pc : Nat} {e : mjE} (h : mj_at mcX8_block pc = some e) : fAt 189 pc e := by unfold fAt; rw [fP_189]; exact h
theorem fr_189 : (mj_P 189).2.2.1 = (some .int) := by rw [fP_189]
theorem fna_189 : (mj_P 189).2.1 = 3 := by rw [fP_189]
theorem fx_189 : 3 ≤ mj_mx.getD 189 0 := by decide
theorem fh_189 : (mj_P 189).2.2.2.2.isEmpty = true := by rw [fP_189]; rfl
theorem fs_189_82 : fSB 189 [0] 3 82 f_189_82 := by
  unfold f_189_82
  refine fo_aload_n (k := 0) (fa_189 rfl) ?_
  refine fo_getr (fa_189 rfl) (by decide) rfl ?_
  refine fo_iload_n (k := 1) (fa_189 rfl) ?_
  refine fo_aaload (fa_189 rfl) (by decide) (by decide) ?_
  refine fo_alen (fa_189 rfl) ?_
  refine fo_istore (k := 4) (fa_189 rfl) ?_
  refine fo_aload_n (k := 0) (fa_189 rfl) ?_
  refine fo_getr (fa_189 rfl) (by decide) rfl ?_
  refine fo_iload_n (k := 1) (fa_189 rfl) ?_
  refine fo_aaload (fa_189 rfl) (by decide) (by decide) ?_
  refine fo_iload (k := 4) (fa_189 rfl) ?_
  refine fo_iconst (fa_189 rfl) fk_c_1 ?_
  refine fo_iadd (fa_189 rfl) ?_
  refine fo_static (by decide) (fo_call (fa_189 rfl) fNs_static fsm_178 (by decide) fFil_2 fna_178 fx_178 (by rw [fP_178]; rfl) fh_189 ?_)
  refine fo_astore (k := 5) (fa_189 rfl) ?_
  refine fo_aload (k := 5) (fa_189 rfl) ?_
  refine fo_iload (k := 4) (fa_189 rfl) ?_
  refine fo_iload_n (k := 2) (fa_189 rfl) ?_
  refine fo_iastore (fa_189 rfl) ?_
  refine fo_aload_n (k := 0) (fa_189 rfl) ?_
  refine fo_iload_n (k := 1) (fa_189 rfl) ?_
  refine fo_aload (k := 5) (fa_189 rfl) ?_
  refine fo_virtual (by decide) fna_181 (fo_call (fa_189 rfl) fNs_virtual fsm_181 (by decide) fFil_0 fna_181 fx_181 (by rw [fP_181]; rfl) fh_189 ?_)
  refine fo_iconst (fa_189 rfl) fk_c_1 ?_
  refine fo_isub (fa_189 rfl) ?_
  exact fo_iret (fa_189 rfl) fr_189 fw_int
theorem fs_189_74 : fSB 189 [0] 3 74 f_189_74 := by
  unfold f_189_74
  refine fo_virtual (by decide) fna_171 (fo_call (fa_189 rfl) fNs_virtual fsm_171 (by decide) fFil_0 fna_171 fx_171 (by rw [fP_171]; rfl) fh_189 ?_)
  refine fo_if_eq (fa_189 rfl) (pcT := 82) rfl fs_189_82 ?_
  refine fo_iconst (fa_189 rfl) fk_c_0 ?_
  exact fo_iret (fa_189 rfl) fr_189 fw_int
theorem fs_189_73 : fSB 189 [0] 3 73 f_189_73 := by
  unfold f_189_73
  refine fo_iconst (fa_189 rfl) fk_c_0 ?_
  exact fs_189_74
theorem fs_189_52 : fSB 189 [0] 3 52 f_189_52 := by
  unfold f_189_52
  refine fo_iload_n (k := 3) (fa_189 rfl) ?_
  refine fo_if_eq (fa_189 rfl) (pcT := 73) rfl fs_189_73 ?_
  refine fo_aload_n (k := 0) (fa_189 rfl) ?_
  refine fo_getr (fa_189 rfl) (by decide) rfl ?_
  refine fo_iload_n (k := 1) (fa_189 rfl) ?_
  refine fo_aaload (fa_189 rfl) (by decide) (by decide) ?_
  refine fo_alen (fa_189 rfl) ?_
  refine fo_sipush (fa_189 rfl) fk_s_160 ?_
  refine fo_icmp_le (fa_189 rfl) (pcT := 73) rfl fs_189_73 ?_
  refine fo_iconst (fa_189 rfl) fk_c_1 ?_
  exact fo_goto (fa_189 rfl) (pcT := 74) rfl fs_189_74
theorem fs_189_51 : fSB 189 [0] 3 51 f_189_51 := by
  unfold f_189_51
  refine fo_iconst (fa_189 rfl) fk_c_0 ?_
  exact fs_189_52
theorem fs_189_28 : fSB 189 [0] 3 28 f_189_28 := by
  unfold f_189_28
  refine fo_iload_n (k := 3) (fa_189 rfl) ?_
  refine fo_if_eq (fa_189 rfl) (pcT := 51) rfl fs_189_51 ?_
  refine fo_iload_n (k := 2) (fa_189 rfl) ?_
  refine fo_aload_n (k := 0) (fa_189 rfl) ?_
  refine fo_getr (fa_189 rfl) (by decide) rfl ?_
  refine fo_iload_n (k := 1) (fa_189 rfl) ?_
  refine fo_aaload (fa_189 rfl) (by decide) (by decide) ?_
  refine fo_iconst (fa_189 rfl) fk_c_0 ?_
  refine fo_iaload (fa_189 rfl) ?_
  refine fo_static (by decide) (fo_call (fa_189 rfl) fNs_static fsm_184 (by decide) fFil_0 fna_184 fx_184 (by rw [fP_184]; rfl) fh_189 ?_)
  refine fo_if_ne (fa_189 rfl) (pcT := 51) rfl fs_189_51 ?_
  refine fo_iconst (fa_189 rfl) fk_c_1 ?_
  exact fo_goto (fa_189 rfl) (pcT := 52) rfl fs_189_52
theorem fs_189_27 : fSB 189 [0] 3 27 f_189_27 := by
  unfold f_189_27
  refine fo_iconst (fa_189 rfl) fk_c_0 ?_
  exact fs_189_28
theorem fs_189_19 : fSB 189 [0] 3 19 f_189_19 := by
  unfold f_189_19
  refine fo_iload_n (k := 3) (fa_189 rfl) ?_
  refine fo_if_ne (fa_189 rfl) (pcT := 27) rfl fs_189_27 ?_
  refine fo_iconst (fa_189 rfl) fk_c_1 ?_
  exact fo_goto (fa_189 rfl) (pcT := 28) rfl fs_189_28
theorem fs_189_18 : fSB 189 [0] 3 18 f_189_18 := by
  unfold f_189_18
  refine fo_iconst (fa_189 rfl) fk_c_0 ?_
  exact fs_189_19
theorem fs_189_0 : fSB 189 [0] 3 0 f_189_0 := by
  unfold f_189_0
  refine fo_aload_n (k := 0) (fa_189 rfl) ?_
  refine fo_iload_n (k := 1) (fa_189 rfl) ?_
  refine fo_virtual (by decide) fna_175 (fo_call (fa_189 rfl) fNs_virtual fsm_175 (by decide) fFil_0 fna_175 fx_175 (by rw [fP_175]; rfl) fh_189 ?_)
  refine fo_istore_n (k := 3) (fa_189 rfl) ?_
  refine fo_aload_n (k := 0) (fa_189 rfl) ?_
  refine fo_iload_n (k := 1) (fa_189 rfl) ?_
  refine fo_static (by decide) (fo_call (fa_189 rfl) fNs_static fsm_173 (by decide) fFil_0 fna_173 fx_173 (by rw [fP_173]; rfl) fh_189 ?_)
  refine fo_if_ne (fa_189 rfl) (pcT := 18) rfl fs_189_18 ?_
  refine fo_iconst (fa_189 rfl) fk_c_1 ?_
  exact fo_goto (fa_189 rfl) (pcT := 19) rfl fs_189_19
theorem fsm_189 : fSM 189 3 fm_189 := fs_methH (lp := [0]) (by decide) rfl ⟨fs_189_0, trivial⟩
theorem fP_190 : mj_P 190 = (8, 4, (some .int), mcX8_shift, []) := rfl
theorem fa_190 {pc : Nat} {e : mjE} (h : mj_at mcX8_shift pc = some e) : fAt 190 pc e := by unfold fAt; rw [fP_190]; exact h
theorem fr_190 : (mj_P 190).2.2.1 = (some .int) := by rw [fP_190]
theorem fna_190 : (mj_P 190).2.1 = 4 := by rw [fP_190]
theorem fx_190 : 4 ≤ mj_mx.getD 190 0 := by decide
theorem fh_190 : (mj_P 190).2.2.2.2.isEmpty = true := by rw [fP_190]; rfl
theorem fs_190_123 : fSB 190 [0, 63, 72] 3 123 f_190_123 := by
  unfold f_190_123
  refine fo_aload_n (k := 0) (fa_190 rfl) ?_
  refine fo_iload_n (k := 1) (fa_190 rfl) ?_
  refine fo_aload (k := 4) (fa_190 rfl) ?_
  refine fo_virtual (by decide) fna_181 (fo_call (fa_190 rfl) fNs_virtual fsm_181 (by decide) fFil_0 fna_181 fx_181 (by rw [fP_181]; rfl) fh_190 ?_)
  exact fo_iret (fa_190 rfl) fr_190 fw_int
theorem fs_190_117 : fSB 190 [0, 63, 72] 3 117 f_190_117 := by
  unfold f_190_117
  refine fo_iinc (k := 5) (fa_190 rfl) fk_c_1 ?_
  exact fo_goto (fa_190 rfl) (pcT := 63) rfl (fo_back (q := 63) rfl)
theorem fs_190_109 : fSB 190 [0, 63, 72] 3 109 f_190_109 := by
  unfold f_190_109
  refine fo_ior (fa_190 rfl) ?_
  refine fo_iastore (fa_190 rfl) ?_
  refine fo_iinc (k := 6) (fa_190 rfl) fk_c_1 ?_
  exact fo_goto (fa_190 rfl) (pcT := 72) rfl (fo_back (q := 72) rfl)
theorem fs_190_108 : fSB 190 [0, 63, 72] 3 108 f_190_108 := by
  unfold f_190_108
  refine fo_iconst (fa_190 rfl) fk_c_0 ?_
  exact fs_190_109
theorem fs_190_72 : fSB 190 [0, 63, 72] 3 72 f_190_72 := by
  unfold f_190_72
  refine fo_iload (k := 6) (fa_190 rfl) ?_
  refine fo_iload_n (k := 2) (fa_190 rfl) ?_
  refine fo_icmp_ge (fa_190 rfl) (pcT := 117) rfl fs_190_117 ?_
  refine fo_shR ?_
  refine fo_iinc (k := 6) (fa_190 rfl) fk_c_1 ?_
  exact fo_goto (fa_190 rfl) (pcT := 72) rfl (fo_back (q := 72) rfl)
theorem fs_190_63 : fSB 190 [0, 63, 72] 3 63 f_190_63 := by
  unfold f_190_63
  refine fo_iload (k := 5) (fa_190 rfl) ?_
  refine fo_iload_n (k := 2) (fa_190 rfl) ?_
  refine fo_icmp_ge (fa_190 rfl) (pcT := 123) rfl fs_190_123 ?_
  refine fo_iconst (fa_190 rfl) fk_c_0 ?_
  refine fo_istore (k := 6) (fa_190 rfl) ?_
  exact fs_190_72
theorem fs_190_48 : fSB 190 [0, 63, 72] 3 48 f_190_48 := by
  unfold f_190_48
  refine fo_iload_n (k := 2) (fa_190 rfl) ?_
  refine fo_iconst (fa_190 rfl) fk_c_1 ?_
  refine fo_iadd (fa_190 rfl) ?_
  refine fo_newarray (fa_190 rfl) rfl (by decide) (by decide) fel_20 ?_
  refine fo_astore (k := 4) (fa_190 rfl) ?_
  refine fo_aload (k := 4) (fa_190 rfl) ?_
  refine fo_iconst (fa_190 rfl) fk_c_0 ?_
  refine fo_iload_n (k := 2) (fa_190 rfl) ?_
  refine fo_iastore (fa_190 rfl) ?_
  refine fo_wkL ?_
  refine fo_lit ?_
  refine fo_iconst (fa_190 rfl) fk_c_0 ?_
  refine fo_istore (k := 5) (fa_190 rfl) ?_
  exact fs_190_63
theorem fs_190_38 : fSB 190 [0, 63, 72] 3 38 f_190_38 := by
  unfold f_190_38
  refine fo_iconst (fa_190 rfl) fk_c_0 ?_
  refine fo_iconst (fa_190 rfl) fk_c_0 ?_
  refine fo_virtual (by decide) fna_171 (fo_call (fa_190 rfl) fNs_virtual fsm_171 (by decide) fFil_0 fna_171 fx_171 (by rw [fP_171]; rfl) fh_190 ?_)
  refine fo_if_eq (fa_190 rfl) (pcT := 48) rfl fs_190_48 ?_
  refine fo_iconst (fa_190 rfl) fk_c_0 ?_
  exact fo_iret (fa_190 rfl) fr_190 fw_int
theorem fs_190_37 : fSB 190 [0, 63, 72] 3 37 f_190_37 := by
  unfold f_190_37
  refine fo_iconst (fa_190 rfl) fk_c_0 ?_
  exact fs_190_38
theorem fs_190_33 : fSB 190 [0, 63, 72] 3 33 f_190_33 := by
  unfold f_190_33
  refine fo_iconst (fa_190 rfl) fk_c_1 ?_
  exact fo_goto (fa_190 rfl) (pcT := 38) rfl fs_190_38
theorem fs_190_13 : fSB 190 [0, 63, 72] 3 13 f_190_13 := by
  unfold f_190_13
  refine fo_iload_n (k := 2) (fa_190 rfl) ?_
  refine fo_i2l (fa_190 rfl) ?_
  refine fo_lconst (fa_190 rfl) rfl ?_
  refine fo_ldc2 (fa_190 rfl) ?_
  refine fo_static (by decide) (fo_call (fa_190 rfl) fNs_static fsm_172 (by decide) fFil_0 fna_172 fx_172 (by rw [fP_172]; rfl) fh_190 ?_)
  refine fo_if_eq (fa_190 rfl) (pcT := 33) rfl fs_190_33 ?_
  refine fo_iload_n (k := 3) (fa_190 rfl) ?_
  refine fo_iload_n (k := 2) (fa_190 rfl) ?_
  refine fo_static (by decide) (fo_call (fa_190 rfl) fNs_static fsm_184 (by decide) fFil_0 fna_184 fx_184 (by rw [fP_184]; rfl) fh_190 ?_)
  refine fo_if_ne (fa_190 rfl) (pcT := 37) rfl fs_190_37 ?_
  exact fs_190_33
theorem fs_190_12 : fSB 190 [0, 63, 72] 3 12 f_190_12 := by
  unfold f_190_12
  refine fo_iconst (fa_190 rfl) fk_c_0 ?_
  exact fs_190_13
theorem fs_190_0 : fSB 190 [0, 63, 72] 3 0 f_190_0 := by
  unfold f_190_0
  refine fo_aload_n (k := 0) (fa_190 rfl) ?_
  refine fo_iload_n (k := 1) (fa_190 rfl) ?_
  refine fo_static (by decide) (fo_call (fa_190 rfl) fNs_static fsm_173 (by decide) fFil_0 fna_173 fx_173 (by rw [fP_173]; rfl) fh_190 ?_)
  refine fo_if_ne (fa_190 rfl) (pcT := 12) rfl fs_190_12 ?_
  refine fo_iconst (fa_190 rfl) fk_c_1 ?_
  exact fo_goto (fa_190 rfl) (pcT := 13) rfl fs_190_13
theorem fsm_190 : fSM 190 3 fm_190 := fs_methH (lp := [0, 63, 72]) (by decide) rfl ⟨fs_190_0, fs_190_63, fs_190_72, trivial⟩
theorem fP_191 : mj_P 191 = (8, 2, (some (.array .int)), mcX8_plane, []) := rfl
theorem fa_191 {pc : Nat} {e : mjE} (h : mj_at mcX8_plane pc = some e) : fAt 191 pc e := by unfold fAt; rw [fP_191]; exact h
theorem fr_191 : (mj_P 191).2.2.1 = (some (.array .int)) := by rw [fP_191]
theorem fna_191 : (mj_P 191).2.1 = 2 := by rw [fP_191]
theorem fx_191 : 2 ≤ mj_mx.getD 191 0 := by decide
theorem fh_191 : (mj_P 191).2.2.2.2.isEmpty = true := by rw [fP_191]; rfl
theorem fs_191_207 : fSB 191 [0, 43, 52, 79, 175] 1 207 f_191_207 := by
  unfold f_191_207
  refine fo_aload_n (k := 3) (fa_191 rfl) ?_
  exact fo_aret (fa_191 rfl) (by rw [fr_191]; rfl)
theorem fs_191_175 : fSB 191 [0, 43, 52, 79, 175] 1 175 f_191_175 := by
  unfold f_191_175
  refine fo_iload (k := 4) (fa_191 rfl) ?_
  refine fo_iload_n (k := 0) (fa_191 rfl) ?_
  refine fo_icmp_gt (fa_191 rfl) (pcT := 207) rfl fs_191_207 ?_
  refine fo_iload_n (k := 1) (fa_191 rfl) ?_
  refine fo_if_eq (fa_191 rfl) (pcT := 207) rfl fs_191_207 ?_
  refine fo_aload_n (k := 3) (fa_191 rfl) ?_
  refine fo_iconst (fa_191 rfl) fk_c_1 ?_
  refine fo_iload_n (k := 2) (fa_191 rfl) ?_
  refine fo_iadd (fa_191 rfl) ?_
  refine fo_dup2 (fa_191 rfl) ?_
  refine fo_iaload (fa_191 rfl) ?_
  refine fo_iconst (fa_191 rfl) fk_c_1 ?_
  refine fo_iload_n (k := 0) (fa_191 rfl) ?_
  refine fo_iload_n (k := 0) (fa_191 rfl) ?_
  refine fo_imul (fa_191 rfl) ?_
  refine fo_iload (k := 4) (fa_191 rfl) ?_
  refine fo_iadd (fa_191 rfl) ?_
  refine fo_ishl (fa_191 rfl) ?_
  refine fo_ior (fa_191 rfl) ?_
  refine fo_iastore (fa_191 rfl) ?_
  refine fo_iinc (k := 4) (fa_191 rfl) fk_c_1 ?_
  exact fo_goto (fa_191 rfl) (pcT := 175) rfl (fo_back (q := 175) rfl)
theorem fs_191_172 : fSB 191 [0, 43, 52, 79, 175] 1 172 f_191_172 := by
  unfold f_191_172
  refine fo_iconst (fa_191 rfl) fk_c_0 ?_
  refine fo_istore (k := 4) (fa_191 rfl) ?_
  exact fs_191_175
theorem fs_191_166 : fSB 191 [0, 43, 52, 79, 175] 1 166 f_191_166 := by
  unfold f_191_166
  refine fo_iinc (k := 4) (fa_191 rfl) fk_c_1 ?_
  exact fo_goto (fa_191 rfl) (pcT := 43) rfl (fo_back (q := 43) rfl)
theorem fs_191_147 : fSB 191 [0, 43, 52, 79, 175] 1 147 f_191_147 := by
  unfold f_191_147
  refine fo_aload_n (k := 3) (fa_191 rfl) ?_
  refine fo_iconst (fa_191 rfl) fk_c_1 ?_
  refine fo_iload_n (k := 0) (fa_191 rfl) ?_
  refine fo_iload (k := 4) (fa_191 rfl) ?_
  refine fo_imul (fa_191 rfl) ?_
  refine fo_iadd (fa_191 rfl) ?_
  refine fo_iload (k := 5) (fa_191 rfl) ?_
  refine fo_iadd (fa_191 rfl) ?_
  refine fo_iload (k := 6) (fa_191 rfl) ?_
  refine fo_iastore (fa_191 rfl) ?_
  refine fo_iinc (k := 5) (fa_191 rfl) fk_c_1 ?_
  exact fo_goto (fa_191 rfl) (pcT := 52) rfl (fo_back (q := 52) rfl)
theorem fs_191_125 : fSB 191 [0, 43, 52, 79, 175] 1 125 f_191_125 := by
  unfold f_191_125
  refine fo_istore (k := 9) (fa_191 rfl) ?_
  refine fo_iload (k := 6) (fa_191 rfl) ?_
  refine fo_iconst (fa_191 rfl) fk_c_1 ?_
  refine fo_iload_n (k := 0) (fa_191 rfl) ?_
  refine fo_iload (k := 8) (fa_191 rfl) ?_
  refine fo_imul (fa_191 rfl) ?_
  refine fo_iload (k := 9) (fa_191 rfl) ?_
  refine fo_iadd (fa_191 rfl) ?_
  refine fo_ishl (fa_191 rfl) ?_
  refine fo_ior (fa_191 rfl) ?_
  refine fo_istore (k := 6) (fa_191 rfl) ?_
  refine fo_iinc (k := 7) (fa_191 rfl) fk_c_1 ?_
  exact fo_goto (fa_191 rfl) (pcT := 79) rfl (fo_back (q := 79) rfl)
theorem fs_191_123 : fSB 191 [0, 43, 52, 79, 175] 1 123 f_191_123 := by
  unfold f_191_123
  refine fo_iload (k := 7) (fa_191 rfl) ?_
  exact fs_191_125
theorem fs_191_98 : fSB 191 [0, 43, 52, 79, 175] 1 98 f_191_98 := by
  unfold f_191_98
  refine fo_istore (k := 8) (fa_191 rfl) ?_
  refine fo_iload (k := 4) (fa_191 rfl) ?_
  refine fo_iload_n (k := 0) (fa_191 rfl) ?_
  refine fo_icmp_ge (fa_191 rfl) (pcT := 123) rfl fs_191_123 ?_
  refine fo_iload_n (k := 0) (fa_191 rfl) ?_
  refine fo_iload_n (k := 0) (fa_191 rfl) ?_
  refine fo_iload (k := 4) (fa_191 rfl) ?_
  refine fo_iload (k := 7) (fa_191 rfl) ?_
  refine fo_static (by decide) (fo_call (fa_191 rfl) fNs_static fsm_187 (by decide) fFil_3 fna_187 fx_187 (by rw [fP_187]; rfl) fh_191 ?_)
  refine fo_iload (k := 5) (fa_191 rfl) ?_
  refine fo_static (by decide) (fo_call (fa_191 rfl) fNs_static fsm_186 (by decide) fFil_0 fna_186 fx_186 (by rw [fP_186]; rfl) fh_191 ?_)
  exact fo_goto (fa_191 rfl) (pcT := 125) rfl fs_191_125
theorem fs_191_96 : fSB 191 [0, 43, 52, 79, 175] 1 96 f_191_96 := by
  unfold f_191_96
  refine fo_iload (k := 5) (fa_191 rfl) ?_
  exact fs_191_98
theorem fs_191_79 : fSB 191 [0, 43, 52, 79, 175] 1 79 f_191_79 := by
  unfold f_191_79
  refine fo_iload (k := 7) (fa_191 rfl) ?_
  refine fo_iload_n (k := 0) (fa_191 rfl) ?_
  refine fo_icmp_ge (fa_191 rfl) (pcT := 147) rfl fs_191_147 ?_
  refine fo_iload (k := 4) (fa_191 rfl) ?_
  refine fo_iload_n (k := 0) (fa_191 rfl) ?_
  refine fo_icmp_ge (fa_191 rfl) (pcT := 96) rfl fs_191_96 ?_
  refine fo_iload (k := 7) (fa_191 rfl) ?_
  exact fo_goto (fa_191 rfl) (pcT := 98) rfl fs_191_98
theorem fs_191_74 : fSB 191 [0, 43, 52, 79, 175] 1 74 f_191_74 := by
  unfold f_191_74
  refine fo_istore (k := 6) (fa_191 rfl) ?_
  refine fo_iconst (fa_191 rfl) fk_c_0 ?_
  refine fo_istore (k := 7) (fa_191 rfl) ?_
  exact fs_191_79
theorem fs_191_73 : fSB 191 [0, 43, 52, 79, 175] 1 73 f_191_73 := by
  unfold f_191_73
  refine fo_iconst (fa_191 rfl) fk_c_0 ?_
  exact fs_191_74
theorem fs_191_52 : fSB 191 [0, 43, 52, 79, 175] 1 52 f_191_52 := by
  unfold f_191_52
  refine fo_iload (k := 5) (fa_191 rfl) ?_
  refine fo_iload_n (k := 0) (fa_191 rfl) ?_
  refine fo_icmp_ge (fa_191 rfl) (pcT := 166) rfl fs_191_166 ?_
  refine fo_iload_n (k := 1) (fa_191 rfl) ?_
  refine fo_if_eq (fa_191 rfl) (pcT := 73) rfl fs_191_73 ?_
  refine fo_iconst (fa_191 rfl) fk_c_1 ?_
  refine fo_iload_n (k := 0) (fa_191 rfl) ?_
  refine fo_iload_n (k := 0) (fa_191 rfl) ?_
  refine fo_imul (fa_191 rfl) ?_
  refine fo_iload (k := 4) (fa_191 rfl) ?_
  refine fo_iadd (fa_191 rfl) ?_
  refine fo_ishl (fa_191 rfl) ?_
  exact fo_goto (fa_191 rfl) (pcT := 74) rfl fs_191_74
theorem fs_191_43 : fSB 191 [0, 43, 52, 79, 175] 1 43 f_191_43 := by
  unfold f_191_43
  refine fo_iload (k := 4) (fa_191 rfl) ?_
  refine fo_iload_n (k := 0) (fa_191 rfl) ?_
  refine fo_icmp_gt (fa_191 rfl) (pcT := 172) rfl fs_191_172 ?_
  refine fo_iconst (fa_191 rfl) fk_c_0 ?_
  refine fo_istore (k := 5) (fa_191 rfl) ?_
  exact fs_191_52
theorem fs_191_38 : fSB 191 [0, 43, 52, 79, 175] 1 38 f_191_38 := by
  unfold f_191_38
  refine fo_iadd (fa_191 rfl) ?_
  refine fo_iastore (fa_191 rfl) ?_
  refine fo_iconst (fa_191 rfl) fk_c_0 ?_
  refine fo_istore (k := 4) (fa_191 rfl) ?_
  exact fs_191_43
theorem fs_191_37 : fSB 191 [0, 43, 52, 79, 175] 1 37 f_191_37 := by
  unfold f_191_37
  refine fo_iconst (fa_191 rfl) fk_c_0 ?_
  exact fs_191_38
theorem fs_191_18 : fSB 191 [0, 43, 52, 79, 175] 1 18 f_191_18 := by
  unfold f_191_18
  refine fo_iadd (fa_191 rfl) ?_
  refine fo_newarray (fa_191 rfl) rfl (by decide) (by decide) fel_20 ?_
  refine fo_astore_n (k := 3) (fa_191 rfl) ?_
  refine fo_aload_n (k := 3) (fa_191 rfl) ?_
  refine fo_iconst (fa_191 rfl) fk_c_0 ?_
  refine fo_iload_n (k := 0) (fa_191 rfl) ?_
  refine fo_iload_n (k := 0) (fa_191 rfl) ?_
  refine fo_imul (fa_191 rfl) ?_
  refine fo_iload_n (k := 1) (fa_191 rfl) ?_
  refine fo_if_eq (fa_191 rfl) (pcT := 37) rfl fs_191_37 ?_
  refine fo_iload_n (k := 0) (fa_191 rfl) ?_
  refine fo_iconst (fa_191 rfl) fk_c_1 ?_
  refine fo_iadd (fa_191 rfl) ?_
  exact fo_goto (fa_191 rfl) (pcT := 38) rfl fs_191_38
theorem fs_191_17 : fSB 191 [0, 43, 52, 79, 175] 1 17 f_191_17 := by
  unfold f_191_17
  refine fo_iconst (fa_191 rfl) fk_c_0 ?_
  exact fs_191_18
theorem fs_191_0 : fSB 191 [0, 43, 52, 79, 175] 1 0 f_191_0 := by
  unfold f_191_0
  refine fo_iload_n (k := 0) (fa_191 rfl) ?_
  refine fo_iload_n (k := 0) (fa_191 rfl) ?_
  refine fo_imul (fa_191 rfl) ?_
  refine fo_iload_n (k := 0) (fa_191 rfl) ?_
  refine fo_iadd (fa_191 rfl) ?_
  refine fo_istore_n (k := 2) (fa_191 rfl) ?_
  refine fo_iconst (fa_191 rfl) fk_c_1 ?_
  refine fo_iload_n (k := 2) (fa_191 rfl) ?_
  refine fo_iadd (fa_191 rfl) ?_
  refine fo_iload_n (k := 1) (fa_191 rfl) ?_
  refine fo_if_eq (fa_191 rfl) (pcT := 17) rfl fs_191_17 ?_
  refine fo_iconst (fa_191 rfl) fk_c_1 ?_
  exact fo_goto (fa_191 rfl) (pcT := 18) rfl fs_191_18
theorem fsm_191 : fSM 191 1 fm_191 := fs_methH (lp := [0, 43, 52, 79, 175]) (by decide) rfl ⟨fs_191_0, fs_191_43, fs_191_52, fs_191_79, fs_191_175, trivial⟩
