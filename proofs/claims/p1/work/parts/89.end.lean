/-! THE END: which row a script belongs to -/
def ge_6 (ys : Nat → Int32) : Int32 := if ys 0 &&& 63 = 47 then ((ys 1).toUInt32 % 65536).toInt32 else if ys 0 &&& 63 = 17 then fcause (ys 1) (ys 2) (ys 3) else 0
def ge_ρ (L : Nat) (ys : Nat → Int32) (k : Nat) : Int32 := if k ≤ 4 then ys k else if k = 5 then ys 0 &&& 63 else if k = 6 then ge_6 ys else Int32.ofNat L
theorem ge_nm (L : Nat) (ys : Nat → Int32) : fNm (ge_ρ L ys) := by
  refine ⟨rfl, fun h => ?_, fun h => ?_⟩
  · have h : ys 0 &&& 63 = 47 := h
    exact if_pos h
  · have h : ys 0 &&& 63 = 17 := h
    show ge_6 ys = fcause (ys 1) (ys 2) (ys 3)
    unfold ge_6
    rw [if_neg (by rw [h]; decide), if_pos h]
theorem ge_eq {x : Int32} {n lo hi : Nat} (h : x = Int32.ofNat n) (hn : n < 2147483648) (h1 : lo ≤ 2147483648 + n) (h2 : 2147483648 + n ≤ hi) : lo ≤ fbi x ∧ fbi x ≤ hi := by
  rw [fcs_fb h hn]
  exact ⟨h1, h2⟩
theorem ge_any (x : Int32) : 0 ≤ fbi x ∧ fbi x ≤ 4294967295 := by
  refine ⟨Nat.zero_le _, ?_⟩
  have h1 := Int32.toInt_lt x
  have h2 := Int32.le_toInt x
  unfold fbi
  omega
theorem ge_6b (ys : Nat → Int32) : 2147483648 ≤ fbi (ge_6 ys) ∧ fbi (ge_6 ys) ≤ 2147549183 := by
  unfold ge_6
  split
  · have e : ((ys 1).toUInt32 % 65536).toInt32 = Int32.ofNat ((ys 1).toUInt32 % 65536).toNat := by
      refine fn_eq ?_
      show ((ys 1).toUInt32 % 65536).toNat = _
      rw [Nat.mod_eq_of_lt (UInt32.toNat_lt _)]
    have hlt : ((ys 1).toUInt32 % 65536).toNat < 65536 := by
      rw [UInt32.toNat_mod]
      exact Nat.mod_lt _ (by decide)
    generalize ((ys 1).toUInt32 % 65536).toNat = u at e hlt
    exact ge_eq e (by omega) (by omega) (by omega)
  · split
    · by_cases hR : fcR (ys 1).toInt (ys 2).toInt (ys 3).toInt
      · obtain ⟨c, hc, hcz⟩ := fcause0_v (ys 1).toInt (ys 2).toInt (ys 3).toInt
        have hc2 : c < 1000 := by
          have e : ([0, 45, 98, 102, 114, 115].all fun k => decide (k < 1000)) = true := by decide
          have := of_decide_eq_true (List.all_eq_true.mp e _ hc)
          omega
        have hz : fcause (ys 1) (ys 2) (ys 3) = Int32.ofNat (c + 1) := by rw [fcause_in hR, hcz, Int32.ofInt_eq_ofNat]
        exact ge_eq hz (by omega) (by omega) (by omega)
      · exact ge_eq (n := 0) (fcause_out hR) (by decide) (by decide) (by decide)
    · exact ge_eq (n := 0) rfl (by decide) (by decide) (by decide)
theorem ge_run {L b : Nat} {ys : Nat → Int32} {l0 h0 l1 h1 l2 h2 l3 h3 l4 h4 l5 h5 l7 : Nat} {t : fI} (hL : L ≤ 5) (h : f_law ((l0, h0) :: (l1, h1) :: (l2, h2) :: (l3, h3) :: (l4, h4) :: (l5, h5) :: (2147483648, 2147549183) :: (l7, l7) :: t) = true) (q0 : l0 ≤ fbi (ys 0) ∧ fbi (ys 0) ≤ h0) (q1 : l1 ≤ fbi (ys 1) ∧ fbi (ys 1) ≤ h1) (q2 : l2 ≤ fbi (ys 2) ∧ fbi (ys 2) ≤ h2) (q3 : l3 ≤ fbi (ys 3) ∧ fbi (ys 3) ≤ h3) (q4 : l4 ≤ fbi (ys 4) ∧ fbi (ys 4) ≤ h4) (q5 : l5 ≤ fbi (ys 0 &&& 63) ∧ fbi (ys 0 &&& 63) ≤ h5) (q7 : fbi (Int32.ofNat L) = l7) : ∃ n hr cr sr, cr ≤ 600006 ∧ sr ≤ 7302024 ∧ mh_run b L ys mj_P n 100 (0, [(0, .retAddr b)], [], [], 0, 0) = some (.inl (some (.int 1)), hr, cr, sr) := by
  refine f_law_ok h (ρ := ge_ρ L ys) ⟨fun k hk => ?_, ge_nm L ys⟩ rfl hL (fun j hj => if_pos hj)
  match k, hk with
  | 0, _ => exact q0
  | 1, _ => exact q1
  | 2, _ => exact q2
  | 3, _ => exact q3
  | 4, _ => exact q4
  | 5, _ => exact q5
  | 6, _ => exact ge_6b ys
  | 7, _ => exact ⟨Nat.le_of_eq q7.symm, Nat.le_of_eq q7⟩
  | k + 8, hk => exact absurd hk (by omega)
theorem ge_63 : ∀ n : Nat, (Int32.ofNat n &&& 63) = Int32.ofNat (n % 64) := by
  intro n
  have e : (63 : Int32) = Int32.ofNat 63 := rfl
  rw [e, fn_and]
  have e2 : Nat.land n 63 = n % 64 := Nat.and_two_pow_sub_one_eq_mod n 6
  rw [e2]
theorem ge_and (x : Int32) : ∃ n, n < 64 ∧ x &&& 63 = Int32.ofNat n := by
  have e : x = Int32.ofNat x.toBitVec.toNat := fn_eq (Nat.mod_eq_of_lt x.toBitVec.isLt).symm
  refine ⟨x.toBitVec.toNat % 64, Nat.mod_lt _ (by decide), ?_⟩
  have h := ge_63 x.toBitVec.toNat
  rw [← e] at h
  exact h

theorem ge_s0 {b : Nat} (ys : Nat → Int32) : ∃ n hr cr sr, cr ≤ 600006 ∧ sr ≤ 7302024 ∧ mh_run b 0 ys mj_P n 100 (0, [(0, .retAddr b)], [], [], 0, 0) = some (.inl (some (.int 1)), hr, cr, sr) :=
  ge_run (by decide) frow_L0 (ge_any _) (ge_any _) (ge_any _) (ge_any _) (ge_any _) (ge_any _) (by decide +kernel)
theorem ge_s1 {b : Nat} (ys : Nat → Int32) : ∃ n hr cr sr, cr ≤ 600006 ∧ sr ≤ 7302024 ∧ mh_run b 1 ys mj_P n 100 (0, [(0, .retAddr b)], [], [], 0, 0) = some (.inl (some (.int 1)), hr, cr, sr) :=
  ge_run (by decide) frow_L1 (ge_any _) (ge_any _) (ge_any _) (ge_any _) (ge_any _) (ge_any _) (by decide +kernel)
theorem ge_s2 {b : Nat} (ys : Nat → Int32) : ∃ n hr cr sr, cr ≤ 600006 ∧ sr ≤ 7302024 ∧ mh_run b 2 ys mj_P n 100 (0, [(0, .retAddr b)], [], [], 0, 0) = some (.inl (some (.int 1)), hr, cr, sr) :=
  ge_run (by decide) frow_L2 (ge_any _) (ge_any _) (ge_any _) (ge_any _) (ge_any _) (ge_any _) (by decide +kernel)
theorem ge_s3 {b : Nat} (ys : Nat → Int32) : ∃ n hr cr sr, cr ≤ 600006 ∧ sr ≤ 7302024 ∧ mh_run b 3 ys mj_P n 100 (0, [(0, .retAddr b)], [], [], 0, 0) = some (.inl (some (.int 1)), hr, cr, sr) :=
  ge_run (by decide) frow_L3 (ge_any _) (ge_any _) (ge_any _) (ge_any _) (ge_any _) (ge_any _) (by decide +kernel)
theorem ge_s4 {b : Nat} (ys : Nat → Int32) : ∃ n hr cr sr, cr ≤ 600006 ∧ sr ≤ 7302024 ∧ mh_run b 4 ys mj_P n 100 (0, [(0, .retAddr b)], [], [], 0, 0) = some (.inl (some (.int 1)), hr, cr, sr) :=
  ge_run (by decide) frow_L4 (ge_any _) (ge_any _) (ge_any _) (ge_any _) (ge_any _) (ge_any _) (by decide +kernel)
theorem ge_c0 {b : Nat} {ys : Nat → Int32} (hn : ys 0 &&& 63 = Int32.ofNat 0) : ∃ n hr cr sr, cr ≤ 600006 ∧ sr ≤ 7302024 ∧ mh_run b 5 ys mj_P n 100 (0, [(0, .retAddr b)], [], [], 0, 0) = some (.inl (some (.int 1)), hr, cr, sr) := by
  exact ge_run (Nat.le_refl 5) frow_0 (ge_any _) (ge_any _) (ge_any _) (ge_any _) (ge_any _) (ge_eq hn (by decide) (by decide) (by decide)) (by decide +kernel)
theorem ge_c1 {b : Nat} {ys : Nat → Int32} (hn : ys 0 &&& 63 = Int32.ofNat 1) : ∃ n hr cr sr, cr ≤ 600006 ∧ sr ≤ 7302024 ∧ mh_run b 5 ys mj_P n 100 (0, [(0, .retAddr b)], [], [], 0, 0) = some (.inl (some (.int 1)), hr, cr, sr) := by
  exact ge_run (Nat.le_refl 5) frow_1 (ge_any _) (ge_any _) (ge_any _) (ge_any _) (ge_any _) (ge_eq hn (by decide) (by decide) (by decide)) (by decide +kernel)
theorem ge_c2 {b : Nat} {ys : Nat → Int32} (hn : ys 0 &&& 63 = Int32.ofNat 2) : ∃ n hr cr sr, cr ≤ 600006 ∧ sr ≤ 7302024 ∧ mh_run b 5 ys mj_P n 100 (0, [(0, .retAddr b)], [], [], 0, 0) = some (.inl (some (.int 1)), hr, cr, sr) := by
  have g1 := ge_any (ys 1)
  have g2 := ge_any (ys 2)
  have g3 := ge_any (ys 3)
  by_cases h2_0 : fbi (ys 2) ≤ 2147483648
  · skip
    exact ge_run (Nat.le_refl 5) frow_2_2_m2147483648_0 (ge_any _) (ge_any _) ⟨by omega, by omega⟩ (ge_any _) (ge_any _) (ge_eq hn (by decide) (by decide) (by decide)) (by decide +kernel)
  by_cases h2_1 : fbi (ys 2) ≤ 2147483649
  · skip
    exact ge_run (Nat.le_refl 5) frow_2_2_1_1 (ge_any _) (ge_any _) ⟨by omega, by omega⟩ (ge_any _) (ge_any _) (ge_eq hn (by decide) (by decide) (by decide)) (by decide +kernel)
  by_cases h2_2 : fbi (ys 2) ≤ 2147483650
  · skip
    exact ge_run (Nat.le_refl 5) frow_2_2_2_2 (ge_any _) (ge_any _) ⟨by omega, by omega⟩ (ge_any _) (ge_any _) (ge_eq hn (by decide) (by decide) (by decide)) (by decide +kernel)
  by_cases h2_3 : fbi (ys 2) ≤ 2147483651
  · skip
    exact ge_run (Nat.le_refl 5) frow_2_2_3_3 (ge_any _) (ge_any _) ⟨by omega, by omega⟩ (ge_any _) (ge_any _) (ge_eq hn (by decide) (by decide) (by decide)) (by decide +kernel)
  by_cases h2_4 : fbi (ys 2) ≤ 2147483652
  · skip
    exact ge_run (Nat.le_refl 5) frow_2_2_4_4 (ge_any _) (ge_any _) ⟨by omega, by omega⟩ (ge_any _) (ge_any _) (ge_eq hn (by decide) (by decide) (by decide)) (by decide +kernel)
  by_cases h2_5 : fbi (ys 2) ≤ 2147483653
  · skip
    exact ge_run (Nat.le_refl 5) frow_2_2_5_5 (ge_any _) (ge_any _) ⟨by omega, by omega⟩ (ge_any _) (ge_any _) (ge_eq hn (by decide) (by decide) (by decide)) (by decide +kernel)
  by_cases h2_6 : fbi (ys 2) ≤ 2147483654
  · skip
    exact ge_run (Nat.le_refl 5) frow_2_2_6_6 (ge_any _) (ge_any _) ⟨by omega, by omega⟩ (ge_any _) (ge_any _) (ge_eq hn (by decide) (by decide) (by decide)) (by decide +kernel)
  by_cases h2_7 : fbi (ys 2) ≤ 2147483655
  · skip
    exact ge_run (Nat.le_refl 5) frow_2_2_7_7 (ge_any _) (ge_any _) ⟨by omega, by omega⟩ (ge_any _) (ge_any _) (ge_eq hn (by decide) (by decide) (by decide)) (by decide +kernel)
  by_cases h2_8 : fbi (ys 2) ≤ 2147483656
  · skip
    exact ge_run (Nat.le_refl 5) frow_2_2_8_8 (ge_any _) (ge_any _) ⟨by omega, by omega⟩ (ge_any _) (ge_any _) (ge_eq hn (by decide) (by decide) (by decide)) (by decide +kernel)
  by_cases h2_9 : fbi (ys 2) ≤ 2147483657
  · skip
    exact ge_run (Nat.le_refl 5) frow_2_2_9_9 (ge_any _) (ge_any _) ⟨by omega, by omega⟩ (ge_any _) (ge_any _) (ge_eq hn (by decide) (by decide) (by decide)) (by decide +kernel)
  by_cases h2_10 : fbi (ys 2) ≤ 2147483658
  · skip
    exact ge_run (Nat.le_refl 5) frow_2_2_10_10 (ge_any _) (ge_any _) ⟨by omega, by omega⟩ (ge_any _) (ge_any _) (ge_eq hn (by decide) (by decide) (by decide)) (by decide +kernel)
  by_cases h2_11 : fbi (ys 2) ≤ 2147483659
  · skip
    exact ge_run (Nat.le_refl 5) frow_2_2_11_11 (ge_any _) (ge_any _) ⟨by omega, by omega⟩ (ge_any _) (ge_any _) (ge_eq hn (by decide) (by decide) (by decide)) (by decide +kernel)
  by_cases h2_12 : fbi (ys 2) ≤ 2147483660
  · skip
    exact ge_run (Nat.le_refl 5) frow_2_2_12_12 (ge_any _) (ge_any _) ⟨by omega, by omega⟩ (ge_any _) (ge_any _) (ge_eq hn (by decide) (by decide) (by decide)) (by decide +kernel)
  by_cases h2_13 : fbi (ys 2) ≤ 2147483661
  · skip
    exact ge_run (Nat.le_refl 5) frow_2_2_13_13 (ge_any _) (ge_any _) ⟨by omega, by omega⟩ (ge_any _) (ge_any _) (ge_eq hn (by decide) (by decide) (by decide)) (by decide +kernel)
  by_cases h2_14 : fbi (ys 2) ≤ 2147483662
  · skip
    exact ge_run (Nat.le_refl 5) frow_2_2_14_14 (ge_any _) (ge_any _) ⟨by omega, by omega⟩ (ge_any _) (ge_any _) (ge_eq hn (by decide) (by decide) (by decide)) (by decide +kernel)
  by_cases h2_15 : fbi (ys 2) ≤ 2147483663
  · skip
    exact ge_run (Nat.le_refl 5) frow_2_2_15_15 (ge_any _) (ge_any _) ⟨by omega, by omega⟩ (ge_any _) (ge_any _) (ge_eq hn (by decide) (by decide) (by decide)) (by decide +kernel)
  by_cases h2_16 : fbi (ys 2) ≤ 2147483664
  · skip
    exact ge_run (Nat.le_refl 5) frow_2_2_16_16 (ge_any _) (ge_any _) ⟨by omega, by omega⟩ (ge_any _) (ge_any _) (ge_eq hn (by decide) (by decide) (by decide)) (by decide +kernel)
  by_cases h2_17 : fbi (ys 2) ≤ 2147483665
  · skip
    exact ge_run (Nat.le_refl 5) frow_2_2_17_17 (ge_any _) (ge_any _) ⟨by omega, by omega⟩ (ge_any _) (ge_any _) (ge_eq hn (by decide) (by decide) (by decide)) (by decide +kernel)
  by_cases h2_18 : fbi (ys 2) ≤ 2147483666
  · skip
    exact ge_run (Nat.le_refl 5) frow_2_2_18_18 (ge_any _) (ge_any _) ⟨by omega, by omega⟩ (ge_any _) (ge_any _) (ge_eq hn (by decide) (by decide) (by decide)) (by decide +kernel)
  by_cases h2_19 : fbi (ys 2) ≤ 2147483667
  · skip
    exact ge_run (Nat.le_refl 5) frow_2_2_19_19 (ge_any _) (ge_any _) ⟨by omega, by omega⟩ (ge_any _) (ge_any _) (ge_eq hn (by decide) (by decide) (by decide)) (by decide +kernel)
  by_cases h2_20 : fbi (ys 2) ≤ 2147483668
  · skip
    exact ge_run (Nat.le_refl 5) frow_2_2_20_20 (ge_any _) (ge_any _) ⟨by omega, by omega⟩ (ge_any _) (ge_any _) (ge_eq hn (by decide) (by decide) (by decide)) (by decide +kernel)
  by_cases h2_21 : fbi (ys 2) ≤ 2147483669
  · skip
    exact ge_run (Nat.le_refl 5) frow_2_2_21_21 (ge_any _) (ge_any _) ⟨by omega, by omega⟩ (ge_any _) (ge_any _) (ge_eq hn (by decide) (by decide) (by decide)) (by decide +kernel)
  by_cases h2_22 : fbi (ys 2) ≤ 2147483670
  · skip
    exact ge_run (Nat.le_refl 5) frow_2_2_22_22 (ge_any _) (ge_any _) ⟨by omega, by omega⟩ (ge_any _) (ge_any _) (ge_eq hn (by decide) (by decide) (by decide)) (by decide +kernel)
  by_cases h2_23 : fbi (ys 2) ≤ 2147483671
  · skip
    exact ge_run (Nat.le_refl 5) frow_2_2_23_23 (ge_any _) (ge_any _) ⟨by omega, by omega⟩ (ge_any _) (ge_any _) (ge_eq hn (by decide) (by decide) (by decide)) (by decide +kernel)
  by_cases h2_24 : fbi (ys 2) ≤ 2147483672
  · skip
    exact ge_run (Nat.le_refl 5) frow_2_2_24_24 (ge_any _) (ge_any _) ⟨by omega, by omega⟩ (ge_any _) (ge_any _) (ge_eq hn (by decide) (by decide) (by decide)) (by decide +kernel)
  by_cases h2_25 : fbi (ys 2) ≤ 2147483673
  · skip
    exact ge_run (Nat.le_refl 5) frow_2_2_25_25 (ge_any _) (ge_any _) ⟨by omega, by omega⟩ (ge_any _) (ge_any _) (ge_eq hn (by decide) (by decide) (by decide)) (by decide +kernel)
  by_cases h2_26 : fbi (ys 2) ≤ 2147483674
  · skip
    exact ge_run (Nat.le_refl 5) frow_2_2_26_26 (ge_any _) (ge_any _) ⟨by omega, by omega⟩ (ge_any _) (ge_any _) (ge_eq hn (by decide) (by decide) (by decide)) (by decide +kernel)
  by_cases h2_27 : fbi (ys 2) ≤ 2147483675
  · skip
    exact ge_run (Nat.le_refl 5) frow_2_2_27_27 (ge_any _) (ge_any _) ⟨by omega, by omega⟩ (ge_any _) (ge_any _) (ge_eq hn (by decide) (by decide) (by decide)) (by decide +kernel)
  by_cases h2_28 : fbi (ys 2) ≤ 2147483676
  · skip
    exact ge_run (Nat.le_refl 5) frow_2_2_28_28 (ge_any _) (ge_any _) ⟨by omega, by omega⟩ (ge_any _) (ge_any _) (ge_eq hn (by decide) (by decide) (by decide)) (by decide +kernel)
  by_cases h2_29 : fbi (ys 2) ≤ 2147483677
  · skip
    exact ge_run (Nat.le_refl 5) frow_2_2_29_29 (ge_any _) (ge_any _) ⟨by omega, by omega⟩ (ge_any _) (ge_any _) (ge_eq hn (by decide) (by decide) (by decide)) (by decide +kernel)
  by_cases h2_30 : fbi (ys 2) ≤ 2147483678
  · skip
    exact ge_run (Nat.le_refl 5) frow_2_2_30_30 (ge_any _) (ge_any _) ⟨by omega, by omega⟩ (ge_any _) (ge_any _) (ge_eq hn (by decide) (by decide) (by decide)) (by decide +kernel)
  by_cases h2_31 : fbi (ys 2) ≤ 2147483679
  · skip
    exact ge_run (Nat.le_refl 5) frow_2_2_31_31 (ge_any _) (ge_any _) ⟨by omega, by omega⟩ (ge_any _) (ge_any _) (ge_eq hn (by decide) (by decide) (by decide)) (by decide +kernel)
  exact ge_run (Nat.le_refl 5) frow_2_2_32_2147483647 (ge_any _) (ge_any _) ⟨by omega, by omega⟩ (ge_any _) (ge_any _) (ge_eq hn (by decide) (by decide) (by decide)) (by decide +kernel)
theorem ge_c3 {b : Nat} {ys : Nat → Int32} (hn : ys 0 &&& 63 = Int32.ofNat 3) : ∃ n hr cr sr, cr ≤ 600006 ∧ sr ≤ 7302024 ∧ mh_run b 5 ys mj_P n 100 (0, [(0, .retAddr b)], [], [], 0, 0) = some (.inl (some (.int 1)), hr, cr, sr) := by
  exact ge_run (Nat.le_refl 5) frow_3 (ge_any _) (ge_any _) (ge_any _) (ge_any _) (ge_any _) (ge_eq hn (by decide) (by decide) (by decide)) (by decide +kernel)
theorem ge_c4 {b : Nat} {ys : Nat → Int32} (hn : ys 0 &&& 63 = Int32.ofNat 4) : ∃ n hr cr sr, cr ≤ 600006 ∧ sr ≤ 7302024 ∧ mh_run b 5 ys mj_P n 100 (0, [(0, .retAddr b)], [], [], 0, 0) = some (.inl (some (.int 1)), hr, cr, sr) := by
  exact ge_run (Nat.le_refl 5) frow_4 (ge_any _) (ge_any _) (ge_any _) (ge_any _) (ge_any _) (ge_eq hn (by decide) (by decide) (by decide)) (by decide +kernel)
theorem ge_c5 {b : Nat} {ys : Nat → Int32} (hn : ys 0 &&& 63 = Int32.ofNat 5) : ∃ n hr cr sr, cr ≤ 600006 ∧ sr ≤ 7302024 ∧ mh_run b 5 ys mj_P n 100 (0, [(0, .retAddr b)], [], [], 0, 0) = some (.inl (some (.int 1)), hr, cr, sr) := by
  exact ge_run (Nat.le_refl 5) frow_5 (ge_any _) (ge_any _) (ge_any _) (ge_any _) (ge_any _) (ge_eq hn (by decide) (by decide) (by decide)) (by decide +kernel)
theorem ge_c6 {b : Nat} {ys : Nat → Int32} (hn : ys 0 &&& 63 = Int32.ofNat 6) : ∃ n hr cr sr, cr ≤ 600006 ∧ sr ≤ 7302024 ∧ mh_run b 5 ys mj_P n 100 (0, [(0, .retAddr b)], [], [], 0, 0) = some (.inl (some (.int 1)), hr, cr, sr) := by
  exact ge_run (Nat.le_refl 5) frow_6 (ge_any _) (ge_any _) (ge_any _) (ge_any _) (ge_any _) (ge_eq hn (by decide) (by decide) (by decide)) (by decide +kernel)
theorem ge_c7 {b : Nat} {ys : Nat → Int32} (hn : ys 0 &&& 63 = Int32.ofNat 7) : ∃ n hr cr sr, cr ≤ 600006 ∧ sr ≤ 7302024 ∧ mh_run b 5 ys mj_P n 100 (0, [(0, .retAddr b)], [], [], 0, 0) = some (.inl (some (.int 1)), hr, cr, sr) := by
  exact ge_run (Nat.le_refl 5) frow_7 (ge_any _) (ge_any _) (ge_any _) (ge_any _) (ge_any _) (ge_eq hn (by decide) (by decide) (by decide)) (by decide +kernel)
theorem ge_c8 {b : Nat} {ys : Nat → Int32} (hn : ys 0 &&& 63 = Int32.ofNat 8) : ∃ n hr cr sr, cr ≤ 600006 ∧ sr ≤ 7302024 ∧ mh_run b 5 ys mj_P n 100 (0, [(0, .retAddr b)], [], [], 0, 0) = some (.inl (some (.int 1)), hr, cr, sr) := by
  exact ge_run (Nat.le_refl 5) frow_8 (ge_any _) (ge_any _) (ge_any _) (ge_any _) (ge_any _) (ge_eq hn (by decide) (by decide) (by decide)) (by decide +kernel)
theorem ge_c9 {b : Nat} {ys : Nat → Int32} (hn : ys 0 &&& 63 = Int32.ofNat 9) : ∃ n hr cr sr, cr ≤ 600006 ∧ sr ≤ 7302024 ∧ mh_run b 5 ys mj_P n 100 (0, [(0, .retAddr b)], [], [], 0, 0) = some (.inl (some (.int 1)), hr, cr, sr) := by
  exact ge_run (Nat.le_refl 5) frow_9 (ge_any _) (ge_any _) (ge_any _) (ge_any _) (ge_any _) (ge_eq hn (by decide) (by decide) (by decide)) (by decide +kernel)
theorem ge_c10 {b : Nat} {ys : Nat → Int32} (hn : ys 0 &&& 63 = Int32.ofNat 10) : ∃ n hr cr sr, cr ≤ 600006 ∧ sr ≤ 7302024 ∧ mh_run b 5 ys mj_P n 100 (0, [(0, .retAddr b)], [], [], 0, 0) = some (.inl (some (.int 1)), hr, cr, sr) := by
  exact ge_run (Nat.le_refl 5) frow_10 (ge_any _) (ge_any _) (ge_any _) (ge_any _) (ge_any _) (ge_eq hn (by decide) (by decide) (by decide)) (by decide +kernel)
theorem ge_c11 {b : Nat} {ys : Nat → Int32} (hn : ys 0 &&& 63 = Int32.ofNat 11) : ∃ n hr cr sr, cr ≤ 600006 ∧ sr ≤ 7302024 ∧ mh_run b 5 ys mj_P n 100 (0, [(0, .retAddr b)], [], [], 0, 0) = some (.inl (some (.int 1)), hr, cr, sr) := by
  exact ge_run (Nat.le_refl 5) frow_11 (ge_any _) (ge_any _) (ge_any _) (ge_any _) (ge_any _) (ge_eq hn (by decide) (by decide) (by decide)) (by decide +kernel)
theorem ge_c12 {b : Nat} {ys : Nat → Int32} (hn : ys 0 &&& 63 = Int32.ofNat 12) : ∃ n hr cr sr, cr ≤ 600006 ∧ sr ≤ 7302024 ∧ mh_run b 5 ys mj_P n 100 (0, [(0, .retAddr b)], [], [], 0, 0) = some (.inl (some (.int 1)), hr, cr, sr) := by
  exact ge_run (Nat.le_refl 5) frow_12 (ge_any _) (ge_any _) (ge_any _) (ge_any _) (ge_any _) (ge_eq hn (by decide) (by decide) (by decide)) (by decide +kernel)
theorem ge_c13 {b : Nat} {ys : Nat → Int32} (hn : ys 0 &&& 63 = Int32.ofNat 13) : ∃ n hr cr sr, cr ≤ 600006 ∧ sr ≤ 7302024 ∧ mh_run b 5 ys mj_P n 100 (0, [(0, .retAddr b)], [], [], 0, 0) = some (.inl (some (.int 1)), hr, cr, sr) := by
  exact ge_run (Nat.le_refl 5) frow_13 (ge_any _) (ge_any _) (ge_any _) (ge_any _) (ge_any _) (ge_eq hn (by decide) (by decide) (by decide)) (by decide +kernel)
theorem ge_c14 {b : Nat} {ys : Nat → Int32} (hn : ys 0 &&& 63 = Int32.ofNat 14) : ∃ n hr cr sr, cr ≤ 600006 ∧ sr ≤ 7302024 ∧ mh_run b 5 ys mj_P n 100 (0, [(0, .retAddr b)], [], [], 0, 0) = some (.inl (some (.int 1)), hr, cr, sr) := by
  exact ge_run (Nat.le_refl 5) frow_14 (ge_any _) (ge_any _) (ge_any _) (ge_any _) (ge_any _) (ge_eq hn (by decide) (by decide) (by decide)) (by decide +kernel)
theorem ge_c15 {b : Nat} {ys : Nat → Int32} (hn : ys 0 &&& 63 = Int32.ofNat 15) : ∃ n hr cr sr, cr ≤ 600006 ∧ sr ≤ 7302024 ∧ mh_run b 5 ys mj_P n 100 (0, [(0, .retAddr b)], [], [], 0, 0) = some (.inl (some (.int 1)), hr, cr, sr) := by
  exact ge_run (Nat.le_refl 5) frow_15 (ge_any _) (ge_any _) (ge_any _) (ge_any _) (ge_any _) (ge_eq hn (by decide) (by decide) (by decide)) (by decide +kernel)
theorem ge_c16 {b : Nat} {ys : Nat → Int32} (hn : ys 0 &&& 63 = Int32.ofNat 16) : ∃ n hr cr sr, cr ≤ 600006 ∧ sr ≤ 7302024 ∧ mh_run b 5 ys mj_P n 100 (0, [(0, .retAddr b)], [], [], 0, 0) = some (.inl (some (.int 1)), hr, cr, sr) := by
  exact ge_run (Nat.le_refl 5) frow_16 (ge_any _) (ge_any _) (ge_any _) (ge_any _) (ge_any _) (ge_eq hn (by decide) (by decide) (by decide)) (by decide +kernel)
theorem ge_c17 {b : Nat} {ys : Nat → Int32} (hn : ys 0 &&& 63 = Int32.ofNat 17) : ∃ n hr cr sr, cr ≤ 600006 ∧ sr ≤ 7302024 ∧ mh_run b 5 ys mj_P n 100 (0, [(0, .retAddr b)], [], [], 0, 0) = some (.inl (some (.int 1)), hr, cr, sr) := by
  exact ge_run (Nat.le_refl 5) frow_17 (ge_any _) (ge_any _) (ge_any _) (ge_any _) (ge_any _) (ge_eq hn (by decide) (by decide) (by decide)) (by decide +kernel)
theorem ge_c18 {b : Nat} {ys : Nat → Int32} (hn : ys 0 &&& 63 = Int32.ofNat 18) : ∃ n hr cr sr, cr ≤ 600006 ∧ sr ≤ 7302024 ∧ mh_run b 5 ys mj_P n 100 (0, [(0, .retAddr b)], [], [], 0, 0) = some (.inl (some (.int 1)), hr, cr, sr) := by
  exact ge_run (Nat.le_refl 5) frow_18 (ge_any _) (ge_any _) (ge_any _) (ge_any _) (ge_any _) (ge_eq hn (by decide) (by decide) (by decide)) (by decide +kernel)
theorem ge_c19 {b : Nat} {ys : Nat → Int32} (hn : ys 0 &&& 63 = Int32.ofNat 19) : ∃ n hr cr sr, cr ≤ 600006 ∧ sr ≤ 7302024 ∧ mh_run b 5 ys mj_P n 100 (0, [(0, .retAddr b)], [], [], 0, 0) = some (.inl (some (.int 1)), hr, cr, sr) := by
  exact ge_run (Nat.le_refl 5) frow_19 (ge_any _) (ge_any _) (ge_any _) (ge_any _) (ge_any _) (ge_eq hn (by decide) (by decide) (by decide)) (by decide +kernel)
theorem ge_c20 {b : Nat} {ys : Nat → Int32} (hn : ys 0 &&& 63 = Int32.ofNat 20) : ∃ n hr cr sr, cr ≤ 600006 ∧ sr ≤ 7302024 ∧ mh_run b 5 ys mj_P n 100 (0, [(0, .retAddr b)], [], [], 0, 0) = some (.inl (some (.int 1)), hr, cr, sr) := by
  exact ge_run (Nat.le_refl 5) frow_20 (ge_any _) (ge_any _) (ge_any _) (ge_any _) (ge_any _) (ge_eq hn (by decide) (by decide) (by decide)) (by decide +kernel)
theorem ge_c21 {b : Nat} {ys : Nat → Int32} (hn : ys 0 &&& 63 = Int32.ofNat 21) : ∃ n hr cr sr, cr ≤ 600006 ∧ sr ≤ 7302024 ∧ mh_run b 5 ys mj_P n 100 (0, [(0, .retAddr b)], [], [], 0, 0) = some (.inl (some (.int 1)), hr, cr, sr) := by
  exact ge_run (Nat.le_refl 5) frow_21 (ge_any _) (ge_any _) (ge_any _) (ge_any _) (ge_any _) (ge_eq hn (by decide) (by decide) (by decide)) (by decide +kernel)
theorem ge_c22 {b : Nat} {ys : Nat → Int32} (hn : ys 0 &&& 63 = Int32.ofNat 22) : ∃ n hr cr sr, cr ≤ 600006 ∧ sr ≤ 7302024 ∧ mh_run b 5 ys mj_P n 100 (0, [(0, .retAddr b)], [], [], 0, 0) = some (.inl (some (.int 1)), hr, cr, sr) := by
  exact ge_run (Nat.le_refl 5) frow_22 (ge_any _) (ge_any _) (ge_any _) (ge_any _) (ge_any _) (ge_eq hn (by decide) (by decide) (by decide)) (by decide +kernel)
theorem ge_c23 {b : Nat} {ys : Nat → Int32} (hn : ys 0 &&& 63 = Int32.ofNat 23) : ∃ n hr cr sr, cr ≤ 600006 ∧ sr ≤ 7302024 ∧ mh_run b 5 ys mj_P n 100 (0, [(0, .retAddr b)], [], [], 0, 0) = some (.inl (some (.int 1)), hr, cr, sr) := by
  exact ge_run (Nat.le_refl 5) frow_23 (ge_any _) (ge_any _) (ge_any _) (ge_any _) (ge_any _) (ge_eq hn (by decide) (by decide) (by decide)) (by decide +kernel)
theorem ge_c24 {b : Nat} {ys : Nat → Int32} (hn : ys 0 &&& 63 = Int32.ofNat 24) : ∃ n hr cr sr, cr ≤ 600006 ∧ sr ≤ 7302024 ∧ mh_run b 5 ys mj_P n 100 (0, [(0, .retAddr b)], [], [], 0, 0) = some (.inl (some (.int 1)), hr, cr, sr) := by
  exact ge_run (Nat.le_refl 5) frow_24 (ge_any _) (ge_any _) (ge_any _) (ge_any _) (ge_any _) (ge_eq hn (by decide) (by decide) (by decide)) (by decide +kernel)
theorem ge_c25 {b : Nat} {ys : Nat → Int32} (hn : ys 0 &&& 63 = Int32.ofNat 25) : ∃ n hr cr sr, cr ≤ 600006 ∧ sr ≤ 7302024 ∧ mh_run b 5 ys mj_P n 100 (0, [(0, .retAddr b)], [], [], 0, 0) = some (.inl (some (.int 1)), hr, cr, sr) := by
  exact ge_run (Nat.le_refl 5) frow_25 (ge_any _) (ge_any _) (ge_any _) (ge_any _) (ge_any _) (ge_eq hn (by decide) (by decide) (by decide)) (by decide +kernel)
theorem ge_c26 {b : Nat} {ys : Nat → Int32} (hn : ys 0 &&& 63 = Int32.ofNat 26) : ∃ n hr cr sr, cr ≤ 600006 ∧ sr ≤ 7302024 ∧ mh_run b 5 ys mj_P n 100 (0, [(0, .retAddr b)], [], [], 0, 0) = some (.inl (some (.int 1)), hr, cr, sr) := by
  have g1 := ge_any (ys 1)
  have g2 := ge_any (ys 2)
  have g3 := ge_any (ys 3)
  by_cases h2_0 : fbi (ys 2) ≤ 2147483649
  · skip
    exact ge_run (Nat.le_refl 5) frow_26_2_m2147483648_1 (ge_any _) (ge_any _) ⟨by omega, by omega⟩ (ge_any _) (ge_any _) (ge_eq hn (by decide) (by decide) (by decide)) (by decide +kernel)
  by_cases h2_1 : fbi (ys 2) ≤ 2147483650
  · skip
    exact ge_run (Nat.le_refl 5) frow_26_2_2_2 (ge_any _) (ge_any _) ⟨by omega, by omega⟩ (ge_any _) (ge_any _) (ge_eq hn (by decide) (by decide) (by decide)) (by decide +kernel)
  by_cases h2_2 : fbi (ys 2) ≤ 2147483651
  · skip
    exact ge_run (Nat.le_refl 5) frow_26_2_3_3 (ge_any _) (ge_any _) ⟨by omega, by omega⟩ (ge_any _) (ge_any _) (ge_eq hn (by decide) (by decide) (by decide)) (by decide +kernel)
  by_cases h2_3 : fbi (ys 2) ≤ 2147483652
  · skip
    exact ge_run (Nat.le_refl 5) frow_26_2_4_4 (ge_any _) (ge_any _) ⟨by omega, by omega⟩ (ge_any _) (ge_any _) (ge_eq hn (by decide) (by decide) (by decide)) (by decide +kernel)
  by_cases h2_4 : fbi (ys 2) ≤ 2147483653
  · skip
    exact ge_run (Nat.le_refl 5) frow_26_2_5_5 (ge_any _) (ge_any _) ⟨by omega, by omega⟩ (ge_any _) (ge_any _) (ge_eq hn (by decide) (by decide) (by decide)) (by decide +kernel)
  by_cases h2_5 : fbi (ys 2) ≤ 2147483654
  · skip
    by_cases h3_0 : fbi (ys 3) ≤ 2147483647
    · skip
      exact ge_run (Nat.le_refl 5) frow_26_2_6_6_3_m2147483648_m1 (ge_any _) (ge_any _) ⟨by omega, by omega⟩ ⟨by omega, by omega⟩ (ge_any _) (ge_eq hn (by decide) (by decide) (by decide)) (by decide +kernel)
    by_cases h3_1 : fbi (ys 3) ≤ 2147483648
    · skip
      exact ge_run (Nat.le_refl 5) frow_26_2_6_6_3_0_0 (ge_any _) (ge_any _) ⟨by omega, by omega⟩ ⟨by omega, by omega⟩ (ge_any _) (ge_eq hn (by decide) (by decide) (by decide)) (by decide +kernel)
    by_cases h3_2 : fbi (ys 3) ≤ 2147483649
    · skip
      exact ge_run (Nat.le_refl 5) frow_26_2_6_6_3_1_1 (ge_any _) (ge_any _) ⟨by omega, by omega⟩ ⟨by omega, by omega⟩ (ge_any _) (ge_eq hn (by decide) (by decide) (by decide)) (by decide +kernel)
    by_cases h3_3 : fbi (ys 3) ≤ 2147483650
    · skip
      exact ge_run (Nat.le_refl 5) frow_26_2_6_6_3_2_2 (ge_any _) (ge_any _) ⟨by omega, by omega⟩ ⟨by omega, by omega⟩ (ge_any _) (ge_eq hn (by decide) (by decide) (by decide)) (by decide +kernel)
    by_cases h3_4 : fbi (ys 3) ≤ 2147483651
    · skip
      exact ge_run (Nat.le_refl 5) frow_26_2_6_6_3_3_3 (ge_any _) (ge_any _) ⟨by omega, by omega⟩ ⟨by omega, by omega⟩ (ge_any _) (ge_eq hn (by decide) (by decide) (by decide)) (by decide +kernel)
    by_cases h3_5 : fbi (ys 3) ≤ 2147483652
    · skip
      exact ge_run (Nat.le_refl 5) frow_26_2_6_6_3_4_4 (ge_any _) (ge_any _) ⟨by omega, by omega⟩ ⟨by omega, by omega⟩ (ge_any _) (ge_eq hn (by decide) (by decide) (by decide)) (by decide +kernel)
    by_cases h3_6 : fbi (ys 3) ≤ 2147483653
    · skip
      exact ge_run (Nat.le_refl 5) frow_26_2_6_6_3_5_5 (ge_any _) (ge_any _) ⟨by omega, by omega⟩ ⟨by omega, by omega⟩ (ge_any _) (ge_eq hn (by decide) (by decide) (by decide)) (by decide +kernel)
    exact ge_run (Nat.le_refl 5) frow_26_2_6_6_3_6_2147483647 (ge_any _) (ge_any _) ⟨by omega, by omega⟩ ⟨by omega, by omega⟩ (ge_any _) (ge_eq hn (by decide) (by decide) (by decide)) (by decide +kernel)
  by_cases h2_6 : fbi (ys 2) ≤ 2147483655
  · skip
    by_cases h3_0 : fbi (ys 3) ≤ 2147483647
    · skip
      exact ge_run (Nat.le_refl 5) frow_26_2_7_7_3_m2147483648_m1 (ge_any _) (ge_any _) ⟨by omega, by omega⟩ ⟨by omega, by omega⟩ (ge_any _) (ge_eq hn (by decide) (by decide) (by decide)) (by decide +kernel)
    by_cases h3_1 : fbi (ys 3) ≤ 2147483648
    · skip
      exact ge_run (Nat.le_refl 5) frow_26_2_7_7_3_0_0 (ge_any _) (ge_any _) ⟨by omega, by omega⟩ ⟨by omega, by omega⟩ (ge_any _) (ge_eq hn (by decide) (by decide) (by decide)) (by decide +kernel)
    by_cases h3_2 : fbi (ys 3) ≤ 2147483649
    · skip
      exact ge_run (Nat.le_refl 5) frow_26_2_7_7_3_1_1 (ge_any _) (ge_any _) ⟨by omega, by omega⟩ ⟨by omega, by omega⟩ (ge_any _) (ge_eq hn (by decide) (by decide) (by decide)) (by decide +kernel)
    by_cases h3_3 : fbi (ys 3) ≤ 2147483650
    · skip
      exact ge_run (Nat.le_refl 5) frow_26_2_7_7_3_2_2 (ge_any _) (ge_any _) ⟨by omega, by omega⟩ ⟨by omega, by omega⟩ (ge_any _) (ge_eq hn (by decide) (by decide) (by decide)) (by decide +kernel)
    by_cases h3_4 : fbi (ys 3) ≤ 2147483651
    · skip
      exact ge_run (Nat.le_refl 5) frow_26_2_7_7_3_3_3 (ge_any _) (ge_any _) ⟨by omega, by omega⟩ ⟨by omega, by omega⟩ (ge_any _) (ge_eq hn (by decide) (by decide) (by decide)) (by decide +kernel)
    by_cases h3_5 : fbi (ys 3) ≤ 2147483652
    · skip
      exact ge_run (Nat.le_refl 5) frow_26_2_7_7_3_4_4 (ge_any _) (ge_any _) ⟨by omega, by omega⟩ ⟨by omega, by omega⟩ (ge_any _) (ge_eq hn (by decide) (by decide) (by decide)) (by decide +kernel)
    by_cases h3_6 : fbi (ys 3) ≤ 2147483653
    · skip
      exact ge_run (Nat.le_refl 5) frow_26_2_7_7_3_5_5 (ge_any _) (ge_any _) ⟨by omega, by omega⟩ ⟨by omega, by omega⟩ (ge_any _) (ge_eq hn (by decide) (by decide) (by decide)) (by decide +kernel)
    by_cases h3_7 : fbi (ys 3) ≤ 2147483654
    · skip
      exact ge_run (Nat.le_refl 5) frow_26_2_7_7_3_6_6 (ge_any _) (ge_any _) ⟨by omega, by omega⟩ ⟨by omega, by omega⟩ (ge_any _) (ge_eq hn (by decide) (by decide) (by decide)) (by decide +kernel)
    exact ge_run (Nat.le_refl 5) frow_26_2_7_7_3_7_2147483647 (ge_any _) (ge_any _) ⟨by omega, by omega⟩ ⟨by omega, by omega⟩ (ge_any _) (ge_eq hn (by decide) (by decide) (by decide)) (by decide +kernel)
  by_cases h2_7 : fbi (ys 2) ≤ 2147483656
  · skip
    by_cases h3_0 : fbi (ys 3) ≤ 2147483647
    · skip
      exact ge_run (Nat.le_refl 5) frow_26_2_8_8_3_m2147483648_m1 (ge_any _) (ge_any _) ⟨by omega, by omega⟩ ⟨by omega, by omega⟩ (ge_any _) (ge_eq hn (by decide) (by decide) (by decide)) (by decide +kernel)
    by_cases h3_1 : fbi (ys 3) ≤ 2147483648
    · skip
      exact ge_run (Nat.le_refl 5) frow_26_2_8_8_3_0_0 (ge_any _) (ge_any _) ⟨by omega, by omega⟩ ⟨by omega, by omega⟩ (ge_any _) (ge_eq hn (by decide) (by decide) (by decide)) (by decide +kernel)
    by_cases h3_2 : fbi (ys 3) ≤ 2147483649
    · skip
      exact ge_run (Nat.le_refl 5) frow_26_2_8_8_3_1_1 (ge_any _) (ge_any _) ⟨by omega, by omega⟩ ⟨by omega, by omega⟩ (ge_any _) (ge_eq hn (by decide) (by decide) (by decide)) (by decide +kernel)
    by_cases h3_3 : fbi (ys 3) ≤ 2147483650
    · skip
      exact ge_run (Nat.le_refl 5) frow_26_2_8_8_3_2_2 (ge_any _) (ge_any _) ⟨by omega, by omega⟩ ⟨by omega, by omega⟩ (ge_any _) (ge_eq hn (by decide) (by decide) (by decide)) (by decide +kernel)
    by_cases h3_4 : fbi (ys 3) ≤ 2147483651
    · skip
      exact ge_run (Nat.le_refl 5) frow_26_2_8_8_3_3_3 (ge_any _) (ge_any _) ⟨by omega, by omega⟩ ⟨by omega, by omega⟩ (ge_any _) (ge_eq hn (by decide) (by decide) (by decide)) (by decide +kernel)
    by_cases h3_5 : fbi (ys 3) ≤ 2147483652
    · skip
      exact ge_run (Nat.le_refl 5) frow_26_2_8_8_3_4_4 (ge_any _) (ge_any _) ⟨by omega, by omega⟩ ⟨by omega, by omega⟩ (ge_any _) (ge_eq hn (by decide) (by decide) (by decide)) (by decide +kernel)
    by_cases h3_6 : fbi (ys 3) ≤ 2147483653
    · skip
      exact ge_run (Nat.le_refl 5) frow_26_2_8_8_3_5_5 (ge_any _) (ge_any _) ⟨by omega, by omega⟩ ⟨by omega, by omega⟩ (ge_any _) (ge_eq hn (by decide) (by decide) (by decide)) (by decide +kernel)
    by_cases h3_7 : fbi (ys 3) ≤ 2147483654
    · skip
      exact ge_run (Nat.le_refl 5) frow_26_2_8_8_3_6_6 (ge_any _) (ge_any _) ⟨by omega, by omega⟩ ⟨by omega, by omega⟩ (ge_any _) (ge_eq hn (by decide) (by decide) (by decide)) (by decide +kernel)
    by_cases h3_8 : fbi (ys 3) ≤ 2147483655
    · skip
      exact ge_run (Nat.le_refl 5) frow_26_2_8_8_3_7_7 (ge_any _) (ge_any _) ⟨by omega, by omega⟩ ⟨by omega, by omega⟩ (ge_any _) (ge_eq hn (by decide) (by decide) (by decide)) (by decide +kernel)
    exact ge_run (Nat.le_refl 5) frow_26_2_8_8_3_8_2147483647 (ge_any _) (ge_any _) ⟨by omega, by omega⟩ ⟨by omega, by omega⟩ (ge_any _) (ge_eq hn (by decide) (by decide) (by decide)) (by decide +kernel)
  by_cases h2_8 : fbi (ys 2) ≤ 2147483657
  · skip
    by_cases h3_0 : fbi (ys 3) ≤ 2147483647
    · skip
      exact ge_run (Nat.le_refl 5) frow_26_2_9_9_3_m2147483648_m1 (ge_any _) (ge_any _) ⟨by omega, by omega⟩ ⟨by omega, by omega⟩ (ge_any _) (ge_eq hn (by decide) (by decide) (by decide)) (by decide +kernel)
    by_cases h3_1 : fbi (ys 3) ≤ 2147483648
    · skip
      exact ge_run (Nat.le_refl 5) frow_26_2_9_9_3_0_0 (ge_any _) (ge_any _) ⟨by omega, by omega⟩ ⟨by omega, by omega⟩ (ge_any _) (ge_eq hn (by decide) (by decide) (by decide)) (by decide +kernel)
    by_cases h3_2 : fbi (ys 3) ≤ 2147483649
    · skip
      exact ge_run (Nat.le_refl 5) frow_26_2_9_9_3_1_1 (ge_any _) (ge_any _) ⟨by omega, by omega⟩ ⟨by omega, by omega⟩ (ge_any _) (ge_eq hn (by decide) (by decide) (by decide)) (by decide +kernel)
    by_cases h3_3 : fbi (ys 3) ≤ 2147483650
    · skip
      exact ge_run (Nat.le_refl 5) frow_26_2_9_9_3_2_2 (ge_any _) (ge_any _) ⟨by omega, by omega⟩ ⟨by omega, by omega⟩ (ge_any _) (ge_eq hn (by decide) (by decide) (by decide)) (by decide +kernel)
    by_cases h3_4 : fbi (ys 3) ≤ 2147483651
    · skip
      exact ge_run (Nat.le_refl 5) frow_26_2_9_9_3_3_3 (ge_any _) (ge_any _) ⟨by omega, by omega⟩ ⟨by omega, by omega⟩ (ge_any _) (ge_eq hn (by decide) (by decide) (by decide)) (by decide +kernel)
    by_cases h3_5 : fbi (ys 3) ≤ 2147483652
    · skip
      exact ge_run (Nat.le_refl 5) frow_26_2_9_9_3_4_4 (ge_any _) (ge_any _) ⟨by omega, by omega⟩ ⟨by omega, by omega⟩ (ge_any _) (ge_eq hn (by decide) (by decide) (by decide)) (by decide +kernel)
    by_cases h3_6 : fbi (ys 3) ≤ 2147483653
    · skip
      exact ge_run (Nat.le_refl 5) frow_26_2_9_9_3_5_5 (ge_any _) (ge_any _) ⟨by omega, by omega⟩ ⟨by omega, by omega⟩ (ge_any _) (ge_eq hn (by decide) (by decide) (by decide)) (by decide +kernel)
    by_cases h3_7 : fbi (ys 3) ≤ 2147483654
    · skip
      exact ge_run (Nat.le_refl 5) frow_26_2_9_9_3_6_6 (ge_any _) (ge_any _) ⟨by omega, by omega⟩ ⟨by omega, by omega⟩ (ge_any _) (ge_eq hn (by decide) (by decide) (by decide)) (by decide +kernel)
    by_cases h3_8 : fbi (ys 3) ≤ 2147483655
    · skip
      exact ge_run (Nat.le_refl 5) frow_26_2_9_9_3_7_7 (ge_any _) (ge_any _) ⟨by omega, by omega⟩ ⟨by omega, by omega⟩ (ge_any _) (ge_eq hn (by decide) (by decide) (by decide)) (by decide +kernel)
    by_cases h3_9 : fbi (ys 3) ≤ 2147483656
    · skip
      exact ge_run (Nat.le_refl 5) frow_26_2_9_9_3_8_8 (ge_any _) (ge_any _) ⟨by omega, by omega⟩ ⟨by omega, by omega⟩ (ge_any _) (ge_eq hn (by decide) (by decide) (by decide)) (by decide +kernel)
    exact ge_run (Nat.le_refl 5) frow_26_2_9_9_3_9_2147483647 (ge_any _) (ge_any _) ⟨by omega, by omega⟩ ⟨by omega, by omega⟩ (ge_any _) (ge_eq hn (by decide) (by decide) (by decide)) (by decide +kernel)
  exact ge_run (Nat.le_refl 5) frow_26_2_10_2147483647 (ge_any _) (ge_any _) ⟨by omega, by omega⟩ (ge_any _) (ge_any _) (ge_eq hn (by decide) (by decide) (by decide)) (by decide +kernel)
theorem ge_c27 {b : Nat} {ys : Nat → Int32} (hn : ys 0 &&& 63 = Int32.ofNat 27) : ∃ n hr cr sr, cr ≤ 600006 ∧ sr ≤ 7302024 ∧ mh_run b 5 ys mj_P n 100 (0, [(0, .retAddr b)], [], [], 0, 0) = some (.inl (some (.int 1)), hr, cr, sr) := by
  have g1 := ge_any (ys 1)
  have g2 := ge_any (ys 2)
  have g3 := ge_any (ys 3)
  by_cases h2_0 : fbi (ys 2) ≤ 2147483649
  · skip
    exact ge_run (Nat.le_refl 5) frow_27_2_m2147483648_1 (ge_any _) (ge_any _) ⟨by omega, by omega⟩ (ge_any _) (ge_any _) (ge_eq hn (by decide) (by decide) (by decide)) (by decide +kernel)
  by_cases h2_1 : fbi (ys 2) ≤ 2147483650
  · skip
    by_cases h3_0 : fbi (ys 3) ≤ 2147483648
    · skip
      exact ge_run (Nat.le_refl 5) frow_27_2_2_2_3_m2147483648_0 (ge_any _) (ge_any _) ⟨by omega, by omega⟩ ⟨by omega, by omega⟩ (ge_any _) (ge_eq hn (by decide) (by decide) (by decide)) (by decide +kernel)
    by_cases h3_1 : fbi (ys 3) ≤ 2147483649
    · skip
      exact ge_run (Nat.le_refl 5) frow_27_2_2_2_3_1_1 (ge_any _) (ge_any _) ⟨by omega, by omega⟩ ⟨by omega, by omega⟩ (ge_any _) (ge_eq hn (by decide) (by decide) (by decide)) (by decide +kernel)
    exact ge_run (Nat.le_refl 5) frow_27_2_2_2_3_2_2147483647 (ge_any _) (ge_any _) ⟨by omega, by omega⟩ ⟨by omega, by omega⟩ (ge_any _) (ge_eq hn (by decide) (by decide) (by decide)) (by decide +kernel)
  by_cases h2_2 : fbi (ys 2) ≤ 2147483651
  · skip
    by_cases h3_0 : fbi (ys 3) ≤ 2147483648
    · skip
      exact ge_run (Nat.le_refl 5) frow_27_2_3_3_3_m2147483648_0 (ge_any _) (ge_any _) ⟨by omega, by omega⟩ ⟨by omega, by omega⟩ (ge_any _) (ge_eq hn (by decide) (by decide) (by decide)) (by decide +kernel)
    by_cases h3_1 : fbi (ys 3) ≤ 2147483649
    · skip
      exact ge_run (Nat.le_refl 5) frow_27_2_3_3_3_1_1 (ge_any _) (ge_any _) ⟨by omega, by omega⟩ ⟨by omega, by omega⟩ (ge_any _) (ge_eq hn (by decide) (by decide) (by decide)) (by decide +kernel)
    by_cases h3_2 : fbi (ys 3) ≤ 2147483650
    · skip
      exact ge_run (Nat.le_refl 5) frow_27_2_3_3_3_2_2 (ge_any _) (ge_any _) ⟨by omega, by omega⟩ ⟨by omega, by omega⟩ (ge_any _) (ge_eq hn (by decide) (by decide) (by decide)) (by decide +kernel)
    exact ge_run (Nat.le_refl 5) frow_27_2_3_3_3_3_2147483647 (ge_any _) (ge_any _) ⟨by omega, by omega⟩ ⟨by omega, by omega⟩ (ge_any _) (ge_eq hn (by decide) (by decide) (by decide)) (by decide +kernel)
  by_cases h2_3 : fbi (ys 2) ≤ 2147483652
  · skip
    by_cases h3_0 : fbi (ys 3) ≤ 2147483648
    · skip
      exact ge_run (Nat.le_refl 5) frow_27_2_4_4_3_m2147483648_0 (ge_any _) (ge_any _) ⟨by omega, by omega⟩ ⟨by omega, by omega⟩ (ge_any _) (ge_eq hn (by decide) (by decide) (by decide)) (by decide +kernel)
    by_cases h3_1 : fbi (ys 3) ≤ 2147483649
    · skip
      exact ge_run (Nat.le_refl 5) frow_27_2_4_4_3_1_1 (ge_any _) (ge_any _) ⟨by omega, by omega⟩ ⟨by omega, by omega⟩ (ge_any _) (ge_eq hn (by decide) (by decide) (by decide)) (by decide +kernel)
    by_cases h3_2 : fbi (ys 3) ≤ 2147483650
    · skip
      exact ge_run (Nat.le_refl 5) frow_27_2_4_4_3_2_2 (ge_any _) (ge_any _) ⟨by omega, by omega⟩ ⟨by omega, by omega⟩ (ge_any _) (ge_eq hn (by decide) (by decide) (by decide)) (by decide +kernel)
    by_cases h3_3 : fbi (ys 3) ≤ 2147483651
    · skip
      exact ge_run (Nat.le_refl 5) frow_27_2_4_4_3_3_3 (ge_any _) (ge_any _) ⟨by omega, by omega⟩ ⟨by omega, by omega⟩ (ge_any _) (ge_eq hn (by decide) (by decide) (by decide)) (by decide +kernel)
    exact ge_run (Nat.le_refl 5) frow_27_2_4_4_3_4_2147483647 (ge_any _) (ge_any _) ⟨by omega, by omega⟩ ⟨by omega, by omega⟩ (ge_any _) (ge_eq hn (by decide) (by decide) (by decide)) (by decide +kernel)
  by_cases h2_4 : fbi (ys 2) ≤ 2147483653
  · skip
    by_cases h3_0 : fbi (ys 3) ≤ 2147483648
    · skip
      exact ge_run (Nat.le_refl 5) frow_27_2_5_5_3_m2147483648_0 (ge_any _) (ge_any _) ⟨by omega, by omega⟩ ⟨by omega, by omega⟩ (ge_any _) (ge_eq hn (by decide) (by decide) (by decide)) (by decide +kernel)
    by_cases h3_1 : fbi (ys 3) ≤ 2147483649
    · skip
      exact ge_run (Nat.le_refl 5) frow_27_2_5_5_3_1_1 (ge_any _) (ge_any _) ⟨by omega, by omega⟩ ⟨by omega, by omega⟩ (ge_any _) (ge_eq hn (by decide) (by decide) (by decide)) (by decide +kernel)
    by_cases h3_2 : fbi (ys 3) ≤ 2147483650
    · skip
      exact ge_run (Nat.le_refl 5) frow_27_2_5_5_3_2_2 (ge_any _) (ge_any _) ⟨by omega, by omega⟩ ⟨by omega, by omega⟩ (ge_any _) (ge_eq hn (by decide) (by decide) (by decide)) (by decide +kernel)
    by_cases h3_3 : fbi (ys 3) ≤ 2147483651
    · skip
      exact ge_run (Nat.le_refl 5) frow_27_2_5_5_3_3_3 (ge_any _) (ge_any _) ⟨by omega, by omega⟩ ⟨by omega, by omega⟩ (ge_any _) (ge_eq hn (by decide) (by decide) (by decide)) (by decide +kernel)
    by_cases h3_4 : fbi (ys 3) ≤ 2147483652
    · skip
      exact ge_run (Nat.le_refl 5) frow_27_2_5_5_3_4_4 (ge_any _) (ge_any _) ⟨by omega, by omega⟩ ⟨by omega, by omega⟩ (ge_any _) (ge_eq hn (by decide) (by decide) (by decide)) (by decide +kernel)
    exact ge_run (Nat.le_refl 5) frow_27_2_5_5_3_5_2147483647 (ge_any _) (ge_any _) ⟨by omega, by omega⟩ ⟨by omega, by omega⟩ (ge_any _) (ge_eq hn (by decide) (by decide) (by decide)) (by decide +kernel)
  by_cases h2_5 : fbi (ys 2) ≤ 2147483654
  · skip
    exact ge_run (Nat.le_refl 5) frow_27_2_6_6 (ge_any _) (ge_any _) ⟨by omega, by omega⟩ (ge_any _) (ge_any _) (ge_eq hn (by decide) (by decide) (by decide)) (by decide +kernel)
  by_cases h2_6 : fbi (ys 2) ≤ 2147483655
  · skip
    by_cases h3_0 : fbi (ys 3) ≤ 2147483648
    · skip
      exact ge_run (Nat.le_refl 5) frow_27_2_7_7_3_m2147483648_0 (ge_any _) (ge_any _) ⟨by omega, by omega⟩ ⟨by omega, by omega⟩ (ge_any _) (ge_eq hn (by decide) (by decide) (by decide)) (by decide +kernel)
    by_cases h3_1 : fbi (ys 3) ≤ 2147483649
    · skip
      exact ge_run (Nat.le_refl 5) frow_27_2_7_7_3_1_1 (ge_any _) (ge_any _) ⟨by omega, by omega⟩ ⟨by omega, by omega⟩ (ge_any _) (ge_eq hn (by decide) (by decide) (by decide)) (by decide +kernel)
    by_cases h3_2 : fbi (ys 3) ≤ 2147483650
    · skip
      exact ge_run (Nat.le_refl 5) frow_27_2_7_7_3_2_2 (ge_any _) (ge_any _) ⟨by omega, by omega⟩ ⟨by omega, by omega⟩ (ge_any _) (ge_eq hn (by decide) (by decide) (by decide)) (by decide +kernel)
    by_cases h3_3 : fbi (ys 3) ≤ 2147483651
    · skip
      exact ge_run (Nat.le_refl 5) frow_27_2_7_7_3_3_3 (ge_any _) (ge_any _) ⟨by omega, by omega⟩ ⟨by omega, by omega⟩ (ge_any _) (ge_eq hn (by decide) (by decide) (by decide)) (by decide +kernel)
    by_cases h3_4 : fbi (ys 3) ≤ 2147483652
    · skip
      exact ge_run (Nat.le_refl 5) frow_27_2_7_7_3_4_4 (ge_any _) (ge_any _) ⟨by omega, by omega⟩ ⟨by omega, by omega⟩ (ge_any _) (ge_eq hn (by decide) (by decide) (by decide)) (by decide +kernel)
    by_cases h3_5 : fbi (ys 3) ≤ 2147483653
    · skip
      exact ge_run (Nat.le_refl 5) frow_27_2_7_7_3_5_5 (ge_any _) (ge_any _) ⟨by omega, by omega⟩ ⟨by omega, by omega⟩ (ge_any _) (ge_eq hn (by decide) (by decide) (by decide)) (by decide +kernel)
    by_cases h3_6 : fbi (ys 3) ≤ 2147483654
    · skip
      exact ge_run (Nat.le_refl 5) frow_27_2_7_7_3_6_6 (ge_any _) (ge_any _) ⟨by omega, by omega⟩ ⟨by omega, by omega⟩ (ge_any _) (ge_eq hn (by decide) (by decide) (by decide)) (by decide +kernel)
    exact ge_run (Nat.le_refl 5) frow_27_2_7_7_3_7_2147483647 (ge_any _) (ge_any _) ⟨by omega, by omega⟩ ⟨by omega, by omega⟩ (ge_any _) (ge_eq hn (by decide) (by decide) (by decide)) (by decide +kernel)
  by_cases h2_7 : fbi (ys 2) ≤ 2147483656
  · skip
    by_cases h3_0 : fbi (ys 3) ≤ 2147483648
    · skip
      exact ge_run (Nat.le_refl 5) frow_27_2_8_8_3_m2147483648_0 (ge_any _) (ge_any _) ⟨by omega, by omega⟩ ⟨by omega, by omega⟩ (ge_any _) (ge_eq hn (by decide) (by decide) (by decide)) (by decide +kernel)
    by_cases h3_1 : fbi (ys 3) ≤ 2147483649
    · skip
      exact ge_run (Nat.le_refl 5) frow_27_2_8_8_3_1_1 (ge_any _) (ge_any _) ⟨by omega, by omega⟩ ⟨by omega, by omega⟩ (ge_any _) (ge_eq hn (by decide) (by decide) (by decide)) (by decide +kernel)
    by_cases h3_2 : fbi (ys 3) ≤ 2147483650
    · skip
      exact ge_run (Nat.le_refl 5) frow_27_2_8_8_3_2_2 (ge_any _) (ge_any _) ⟨by omega, by omega⟩ ⟨by omega, by omega⟩ (ge_any _) (ge_eq hn (by decide) (by decide) (by decide)) (by decide +kernel)
    by_cases h3_3 : fbi (ys 3) ≤ 2147483651
    · skip
      exact ge_run (Nat.le_refl 5) frow_27_2_8_8_3_3_3 (ge_any _) (ge_any _) ⟨by omega, by omega⟩ ⟨by omega, by omega⟩ (ge_any _) (ge_eq hn (by decide) (by decide) (by decide)) (by decide +kernel)
    by_cases h3_4 : fbi (ys 3) ≤ 2147483652
    · skip
      exact ge_run (Nat.le_refl 5) frow_27_2_8_8_3_4_4 (ge_any _) (ge_any _) ⟨by omega, by omega⟩ ⟨by omega, by omega⟩ (ge_any _) (ge_eq hn (by decide) (by decide) (by decide)) (by decide +kernel)
    by_cases h3_5 : fbi (ys 3) ≤ 2147483653
    · skip
      exact ge_run (Nat.le_refl 5) frow_27_2_8_8_3_5_5 (ge_any _) (ge_any _) ⟨by omega, by omega⟩ ⟨by omega, by omega⟩ (ge_any _) (ge_eq hn (by decide) (by decide) (by decide)) (by decide +kernel)
    by_cases h3_6 : fbi (ys 3) ≤ 2147483654
    · skip
      exact ge_run (Nat.le_refl 5) frow_27_2_8_8_3_6_6 (ge_any _) (ge_any _) ⟨by omega, by omega⟩ ⟨by omega, by omega⟩ (ge_any _) (ge_eq hn (by decide) (by decide) (by decide)) (by decide +kernel)
    by_cases h3_7 : fbi (ys 3) ≤ 2147483655
    · skip
      exact ge_run (Nat.le_refl 5) frow_27_2_8_8_3_7_7 (ge_any _) (ge_any _) ⟨by omega, by omega⟩ ⟨by omega, by omega⟩ (ge_any _) (ge_eq hn (by decide) (by decide) (by decide)) (by decide +kernel)
    exact ge_run (Nat.le_refl 5) frow_27_2_8_8_3_8_2147483647 (ge_any _) (ge_any _) ⟨by omega, by omega⟩ ⟨by omega, by omega⟩ (ge_any _) (ge_eq hn (by decide) (by decide) (by decide)) (by decide +kernel)
  by_cases h2_8 : fbi (ys 2) ≤ 2147483657
  · skip
    by_cases h3_0 : fbi (ys 3) ≤ 2147483648
    · skip
      exact ge_run (Nat.le_refl 5) frow_27_2_9_9_3_m2147483648_0 (ge_any _) (ge_any _) ⟨by omega, by omega⟩ ⟨by omega, by omega⟩ (ge_any _) (ge_eq hn (by decide) (by decide) (by decide)) (by decide +kernel)
    by_cases h3_1 : fbi (ys 3) ≤ 2147483649
    · skip
      exact ge_run (Nat.le_refl 5) frow_27_2_9_9_3_1_1 (ge_any _) (ge_any _) ⟨by omega, by omega⟩ ⟨by omega, by omega⟩ (ge_any _) (ge_eq hn (by decide) (by decide) (by decide)) (by decide +kernel)
    by_cases h3_2 : fbi (ys 3) ≤ 2147483650
    · skip
      exact ge_run (Nat.le_refl 5) frow_27_2_9_9_3_2_2 (ge_any _) (ge_any _) ⟨by omega, by omega⟩ ⟨by omega, by omega⟩ (ge_any _) (ge_eq hn (by decide) (by decide) (by decide)) (by decide +kernel)
    by_cases h3_3 : fbi (ys 3) ≤ 2147483651
    · skip
      exact ge_run (Nat.le_refl 5) frow_27_2_9_9_3_3_3 (ge_any _) (ge_any _) ⟨by omega, by omega⟩ ⟨by omega, by omega⟩ (ge_any _) (ge_eq hn (by decide) (by decide) (by decide)) (by decide +kernel)
    by_cases h3_4 : fbi (ys 3) ≤ 2147483652
    · skip
      exact ge_run (Nat.le_refl 5) frow_27_2_9_9_3_4_4 (ge_any _) (ge_any _) ⟨by omega, by omega⟩ ⟨by omega, by omega⟩ (ge_any _) (ge_eq hn (by decide) (by decide) (by decide)) (by decide +kernel)
    by_cases h3_5 : fbi (ys 3) ≤ 2147483653
    · skip
      exact ge_run (Nat.le_refl 5) frow_27_2_9_9_3_5_5 (ge_any _) (ge_any _) ⟨by omega, by omega⟩ ⟨by omega, by omega⟩ (ge_any _) (ge_eq hn (by decide) (by decide) (by decide)) (by decide +kernel)
    by_cases h3_6 : fbi (ys 3) ≤ 2147483654
    · skip
      exact ge_run (Nat.le_refl 5) frow_27_2_9_9_3_6_6 (ge_any _) (ge_any _) ⟨by omega, by omega⟩ ⟨by omega, by omega⟩ (ge_any _) (ge_eq hn (by decide) (by decide) (by decide)) (by decide +kernel)
    by_cases h3_7 : fbi (ys 3) ≤ 2147483655
    · skip
      exact ge_run (Nat.le_refl 5) frow_27_2_9_9_3_7_7 (ge_any _) (ge_any _) ⟨by omega, by omega⟩ ⟨by omega, by omega⟩ (ge_any _) (ge_eq hn (by decide) (by decide) (by decide)) (by decide +kernel)
    by_cases h3_8 : fbi (ys 3) ≤ 2147483656
    · skip
      exact ge_run (Nat.le_refl 5) frow_27_2_9_9_3_8_8 (ge_any _) (ge_any _) ⟨by omega, by omega⟩ ⟨by omega, by omega⟩ (ge_any _) (ge_eq hn (by decide) (by decide) (by decide)) (by decide +kernel)
    exact ge_run (Nat.le_refl 5) frow_27_2_9_9_3_9_2147483647 (ge_any _) (ge_any _) ⟨by omega, by omega⟩ ⟨by omega, by omega⟩ (ge_any _) (ge_eq hn (by decide) (by decide) (by decide)) (by decide +kernel)
  exact ge_run (Nat.le_refl 5) frow_27_2_10_2147483647 (ge_any _) (ge_any _) ⟨by omega, by omega⟩ (ge_any _) (ge_any _) (ge_eq hn (by decide) (by decide) (by decide)) (by decide +kernel)
theorem ge_c28 {b : Nat} {ys : Nat → Int32} (hn : ys 0 &&& 63 = Int32.ofNat 28) : ∃ n hr cr sr, cr ≤ 600006 ∧ sr ≤ 7302024 ∧ mh_run b 5 ys mj_P n 100 (0, [(0, .retAddr b)], [], [], 0, 0) = some (.inl (some (.int 1)), hr, cr, sr) := by
  exact ge_run (Nat.le_refl 5) frow_28 (ge_any _) (ge_any _) (ge_any _) (ge_any _) (ge_any _) (ge_eq hn (by decide) (by decide) (by decide)) (by decide +kernel)
theorem ge_c29 {b : Nat} {ys : Nat → Int32} (hn : ys 0 &&& 63 = Int32.ofNat 29) : ∃ n hr cr sr, cr ≤ 600006 ∧ sr ≤ 7302024 ∧ mh_run b 5 ys mj_P n 100 (0, [(0, .retAddr b)], [], [], 0, 0) = some (.inl (some (.int 1)), hr, cr, sr) := by
  exact ge_run (Nat.le_refl 5) frow_29 (ge_any _) (ge_any _) (ge_any _) (ge_any _) (ge_any _) (ge_eq hn (by decide) (by decide) (by decide)) (by decide +kernel)
theorem ge_c30 {b : Nat} {ys : Nat → Int32} (hn : ys 0 &&& 63 = Int32.ofNat 30) : ∃ n hr cr sr, cr ≤ 600006 ∧ sr ≤ 7302024 ∧ mh_run b 5 ys mj_P n 100 (0, [(0, .retAddr b)], [], [], 0, 0) = some (.inl (some (.int 1)), hr, cr, sr) := by
  exact ge_run (Nat.le_refl 5) frow_30 (ge_any _) (ge_any _) (ge_any _) (ge_any _) (ge_any _) (ge_eq hn (by decide) (by decide) (by decide)) (by decide +kernel)
theorem ge_c31 {b : Nat} {ys : Nat → Int32} (hn : ys 0 &&& 63 = Int32.ofNat 31) : ∃ n hr cr sr, cr ≤ 600006 ∧ sr ≤ 7302024 ∧ mh_run b 5 ys mj_P n 100 (0, [(0, .retAddr b)], [], [], 0, 0) = some (.inl (some (.int 1)), hr, cr, sr) := by
  exact ge_run (Nat.le_refl 5) frow_31 (ge_any _) (ge_any _) (ge_any _) (ge_any _) (ge_any _) (ge_eq hn (by decide) (by decide) (by decide)) (by decide +kernel)
theorem ge_c32 {b : Nat} {ys : Nat → Int32} (hn : ys 0 &&& 63 = Int32.ofNat 32) : ∃ n hr cr sr, cr ≤ 600006 ∧ sr ≤ 7302024 ∧ mh_run b 5 ys mj_P n 100 (0, [(0, .retAddr b)], [], [], 0, 0) = some (.inl (some (.int 1)), hr, cr, sr) := by
  exact ge_run (Nat.le_refl 5) frow_32 (ge_any _) (ge_any _) (ge_any _) (ge_any _) (ge_any _) (ge_eq hn (by decide) (by decide) (by decide)) (by decide +kernel)
theorem ge_c33 {b : Nat} {ys : Nat → Int32} (hn : ys 0 &&& 63 = Int32.ofNat 33) : ∃ n hr cr sr, cr ≤ 600006 ∧ sr ≤ 7302024 ∧ mh_run b 5 ys mj_P n 100 (0, [(0, .retAddr b)], [], [], 0, 0) = some (.inl (some (.int 1)), hr, cr, sr) := by
  exact ge_run (Nat.le_refl 5) frow_33 (ge_any _) (ge_any _) (ge_any _) (ge_any _) (ge_any _) (ge_eq hn (by decide) (by decide) (by decide)) (by decide +kernel)
theorem ge_c34 {b : Nat} {ys : Nat → Int32} (hn : ys 0 &&& 63 = Int32.ofNat 34) : ∃ n hr cr sr, cr ≤ 600006 ∧ sr ≤ 7302024 ∧ mh_run b 5 ys mj_P n 100 (0, [(0, .retAddr b)], [], [], 0, 0) = some (.inl (some (.int 1)), hr, cr, sr) := by
  exact ge_run (Nat.le_refl 5) frow_34 (ge_any _) (ge_any _) (ge_any _) (ge_any _) (ge_any _) (ge_eq hn (by decide) (by decide) (by decide)) (by decide +kernel)
theorem ge_c35 {b : Nat} {ys : Nat → Int32} (hn : ys 0 &&& 63 = Int32.ofNat 35) : ∃ n hr cr sr, cr ≤ 600006 ∧ sr ≤ 7302024 ∧ mh_run b 5 ys mj_P n 100 (0, [(0, .retAddr b)], [], [], 0, 0) = some (.inl (some (.int 1)), hr, cr, sr) := by
  exact ge_run (Nat.le_refl 5) frow_35 (ge_any _) (ge_any _) (ge_any _) (ge_any _) (ge_any _) (ge_eq hn (by decide) (by decide) (by decide)) (by decide +kernel)
theorem ge_c36 {b : Nat} {ys : Nat → Int32} (hn : ys 0 &&& 63 = Int32.ofNat 36) : ∃ n hr cr sr, cr ≤ 600006 ∧ sr ≤ 7302024 ∧ mh_run b 5 ys mj_P n 100 (0, [(0, .retAddr b)], [], [], 0, 0) = some (.inl (some (.int 1)), hr, cr, sr) := by
  exact ge_run (Nat.le_refl 5) frow_36 (ge_any _) (ge_any _) (ge_any _) (ge_any _) (ge_any _) (ge_eq hn (by decide) (by decide) (by decide)) (by decide +kernel)
theorem ge_c37 {b : Nat} {ys : Nat → Int32} (hn : ys 0 &&& 63 = Int32.ofNat 37) : ∃ n hr cr sr, cr ≤ 600006 ∧ sr ≤ 7302024 ∧ mh_run b 5 ys mj_P n 100 (0, [(0, .retAddr b)], [], [], 0, 0) = some (.inl (some (.int 1)), hr, cr, sr) := by
  exact ge_run (Nat.le_refl 5) frow_37 (ge_any _) (ge_any _) (ge_any _) (ge_any _) (ge_any _) (ge_eq hn (by decide) (by decide) (by decide)) (by decide +kernel)
theorem ge_c38 {b : Nat} {ys : Nat → Int32} (hn : ys 0 &&& 63 = Int32.ofNat 38) : ∃ n hr cr sr, cr ≤ 600006 ∧ sr ≤ 7302024 ∧ mh_run b 5 ys mj_P n 100 (0, [(0, .retAddr b)], [], [], 0, 0) = some (.inl (some (.int 1)), hr, cr, sr) := by
  exact ge_run (Nat.le_refl 5) frow_38 (ge_any _) (ge_any _) (ge_any _) (ge_any _) (ge_any _) (ge_eq hn (by decide) (by decide) (by decide)) (by decide +kernel)
theorem ge_c39 {b : Nat} {ys : Nat → Int32} (hn : ys 0 &&& 63 = Int32.ofNat 39) : ∃ n hr cr sr, cr ≤ 600006 ∧ sr ≤ 7302024 ∧ mh_run b 5 ys mj_P n 100 (0, [(0, .retAddr b)], [], [], 0, 0) = some (.inl (some (.int 1)), hr, cr, sr) := by
  exact ge_run (Nat.le_refl 5) frow_39 (ge_any _) (ge_any _) (ge_any _) (ge_any _) (ge_any _) (ge_eq hn (by decide) (by decide) (by decide)) (by decide +kernel)
theorem ge_c40 {b : Nat} {ys : Nat → Int32} (hn : ys 0 &&& 63 = Int32.ofNat 40) : ∃ n hr cr sr, cr ≤ 600006 ∧ sr ≤ 7302024 ∧ mh_run b 5 ys mj_P n 100 (0, [(0, .retAddr b)], [], [], 0, 0) = some (.inl (some (.int 1)), hr, cr, sr) := by
  exact ge_run (Nat.le_refl 5) frow_40 (ge_any _) (ge_any _) (ge_any _) (ge_any _) (ge_any _) (ge_eq hn (by decide) (by decide) (by decide)) (by decide +kernel)
theorem ge_c41 {b : Nat} {ys : Nat → Int32} (hn : ys 0 &&& 63 = Int32.ofNat 41) : ∃ n hr cr sr, cr ≤ 600006 ∧ sr ≤ 7302024 ∧ mh_run b 5 ys mj_P n 100 (0, [(0, .retAddr b)], [], [], 0, 0) = some (.inl (some (.int 1)), hr, cr, sr) := by
  exact ge_run (Nat.le_refl 5) frow_41 (ge_any _) (ge_any _) (ge_any _) (ge_any _) (ge_any _) (ge_eq hn (by decide) (by decide) (by decide)) (by decide +kernel)
theorem ge_c42 {b : Nat} {ys : Nat → Int32} (hn : ys 0 &&& 63 = Int32.ofNat 42) : ∃ n hr cr sr, cr ≤ 600006 ∧ sr ≤ 7302024 ∧ mh_run b 5 ys mj_P n 100 (0, [(0, .retAddr b)], [], [], 0, 0) = some (.inl (some (.int 1)), hr, cr, sr) := by
  exact ge_run (Nat.le_refl 5) frow_42 (ge_any _) (ge_any _) (ge_any _) (ge_any _) (ge_any _) (ge_eq hn (by decide) (by decide) (by decide)) (by decide +kernel)
theorem ge_c43 {b : Nat} {ys : Nat → Int32} (hn : ys 0 &&& 63 = Int32.ofNat 43) : ∃ n hr cr sr, cr ≤ 600006 ∧ sr ≤ 7302024 ∧ mh_run b 5 ys mj_P n 100 (0, [(0, .retAddr b)], [], [], 0, 0) = some (.inl (some (.int 1)), hr, cr, sr) := by
  exact ge_run (Nat.le_refl 5) frow_43 (ge_any _) (ge_any _) (ge_any _) (ge_any _) (ge_any _) (ge_eq hn (by decide) (by decide) (by decide)) (by decide +kernel)
theorem ge_c44 {b : Nat} {ys : Nat → Int32} (hn : ys 0 &&& 63 = Int32.ofNat 44) : ∃ n hr cr sr, cr ≤ 600006 ∧ sr ≤ 7302024 ∧ mh_run b 5 ys mj_P n 100 (0, [(0, .retAddr b)], [], [], 0, 0) = some (.inl (some (.int 1)), hr, cr, sr) := by
  exact ge_run (Nat.le_refl 5) frow_44 (ge_any _) (ge_any _) (ge_any _) (ge_any _) (ge_any _) (ge_eq hn (by decide) (by decide) (by decide)) (by decide +kernel)
theorem ge_c45 {b : Nat} {ys : Nat → Int32} (hn : ys 0 &&& 63 = Int32.ofNat 45) : ∃ n hr cr sr, cr ≤ 600006 ∧ sr ≤ 7302024 ∧ mh_run b 5 ys mj_P n 100 (0, [(0, .retAddr b)], [], [], 0, 0) = some (.inl (some (.int 1)), hr, cr, sr) := by
  have g1 := ge_any (ys 1)
  have g2 := ge_any (ys 2)
  have g3 := ge_any (ys 3)
  by_cases h1_0 : fbi (ys 1) ≤ 2147483649
  · skip
    exact ge_run (Nat.le_refl 5) frow_45_1_m2147483648_1 (ge_any _) ⟨by omega, by omega⟩ (ge_any _) (ge_any _) (ge_any _) (ge_eq hn (by decide) (by decide) (by decide)) (by decide +kernel)
  by_cases h1_1 : fbi (ys 1) ≤ 2147483650
  · skip
    exact ge_run (Nat.le_refl 5) frow_45_1_2_2 (ge_any _) ⟨by omega, by omega⟩ (ge_any _) (ge_any _) (ge_any _) (ge_eq hn (by decide) (by decide) (by decide)) (by decide +kernel)
  by_cases h1_2 : fbi (ys 1) ≤ 2147483651
  · skip
    exact ge_run (Nat.le_refl 5) frow_45_1_3_3 (ge_any _) ⟨by omega, by omega⟩ (ge_any _) (ge_any _) (ge_any _) (ge_eq hn (by decide) (by decide) (by decide)) (by decide +kernel)
  by_cases h1_3 : fbi (ys 1) ≤ 2147483652
  · skip
    exact ge_run (Nat.le_refl 5) frow_45_1_4_4 (ge_any _) ⟨by omega, by omega⟩ (ge_any _) (ge_any _) (ge_any _) (ge_eq hn (by decide) (by decide) (by decide)) (by decide +kernel)
  by_cases h1_4 : fbi (ys 1) ≤ 2147483653
  · skip
    exact ge_run (Nat.le_refl 5) frow_45_1_5_5 (ge_any _) ⟨by omega, by omega⟩ (ge_any _) (ge_any _) (ge_any _) (ge_eq hn (by decide) (by decide) (by decide)) (by decide +kernel)
  by_cases h1_5 : fbi (ys 1) ≤ 2147483654
  · skip
    exact ge_run (Nat.le_refl 5) frow_45_1_6_6 (ge_any _) ⟨by omega, by omega⟩ (ge_any _) (ge_any _) (ge_any _) (ge_eq hn (by decide) (by decide) (by decide)) (by decide +kernel)
  by_cases h1_6 : fbi (ys 1) ≤ 2147483655
  · skip
    exact ge_run (Nat.le_refl 5) frow_45_1_7_7 (ge_any _) ⟨by omega, by omega⟩ (ge_any _) (ge_any _) (ge_any _) (ge_eq hn (by decide) (by decide) (by decide)) (by decide +kernel)
  by_cases h1_7 : fbi (ys 1) ≤ 2147483656
  · skip
    exact ge_run (Nat.le_refl 5) frow_45_1_8_8 (ge_any _) ⟨by omega, by omega⟩ (ge_any _) (ge_any _) (ge_any _) (ge_eq hn (by decide) (by decide) (by decide)) (by decide +kernel)
  by_cases h1_8 : fbi (ys 1) ≤ 2147483657
  · skip
    exact ge_run (Nat.le_refl 5) frow_45_1_9_9 (ge_any _) ⟨by omega, by omega⟩ (ge_any _) (ge_any _) (ge_any _) (ge_eq hn (by decide) (by decide) (by decide)) (by decide +kernel)
  exact ge_run (Nat.le_refl 5) frow_45_1_10_2147483647 (ge_any _) ⟨by omega, by omega⟩ (ge_any _) (ge_any _) (ge_any _) (ge_eq hn (by decide) (by decide) (by decide)) (by decide +kernel)
theorem ge_c46 {b : Nat} {ys : Nat → Int32} (hn : ys 0 &&& 63 = Int32.ofNat 46) : ∃ n hr cr sr, cr ≤ 600006 ∧ sr ≤ 7302024 ∧ mh_run b 5 ys mj_P n 100 (0, [(0, .retAddr b)], [], [], 0, 0) = some (.inl (some (.int 1)), hr, cr, sr) := by
  have g1 := ge_any (ys 1)
  have g2 := ge_any (ys 2)
  have g3 := ge_any (ys 3)
  by_cases h1_0 : fbi (ys 1) ≤ 2147483649
  · skip
    exact ge_run (Nat.le_refl 5) frow_46_1_m2147483648_1 (ge_any _) ⟨by omega, by omega⟩ (ge_any _) (ge_any _) (ge_any _) (ge_eq hn (by decide) (by decide) (by decide)) (by decide +kernel)
  by_cases h1_1 : fbi (ys 1) ≤ 2147483650
  · skip
    exact ge_run (Nat.le_refl 5) frow_46_1_2_2 (ge_any _) ⟨by omega, by omega⟩ (ge_any _) (ge_any _) (ge_any _) (ge_eq hn (by decide) (by decide) (by decide)) (by decide +kernel)
  by_cases h1_2 : fbi (ys 1) ≤ 2147483651
  · skip
    exact ge_run (Nat.le_refl 5) frow_46_1_3_3 (ge_any _) ⟨by omega, by omega⟩ (ge_any _) (ge_any _) (ge_any _) (ge_eq hn (by decide) (by decide) (by decide)) (by decide +kernel)
  by_cases h1_3 : fbi (ys 1) ≤ 2147483652
  · skip
    exact ge_run (Nat.le_refl 5) frow_46_1_4_4 (ge_any _) ⟨by omega, by omega⟩ (ge_any _) (ge_any _) (ge_any _) (ge_eq hn (by decide) (by decide) (by decide)) (by decide +kernel)
  by_cases h1_4 : fbi (ys 1) ≤ 2147483653
  · skip
    exact ge_run (Nat.le_refl 5) frow_46_1_5_5 (ge_any _) ⟨by omega, by omega⟩ (ge_any _) (ge_any _) (ge_any _) (ge_eq hn (by decide) (by decide) (by decide)) (by decide +kernel)
  by_cases h1_5 : fbi (ys 1) ≤ 2147483654
  · skip
    exact ge_run (Nat.le_refl 5) frow_46_1_6_6 (ge_any _) ⟨by omega, by omega⟩ (ge_any _) (ge_any _) (ge_any _) (ge_eq hn (by decide) (by decide) (by decide)) (by decide +kernel)
  by_cases h1_6 : fbi (ys 1) ≤ 2147483655
  · skip
    exact ge_run (Nat.le_refl 5) frow_46_1_7_7 (ge_any _) ⟨by omega, by omega⟩ (ge_any _) (ge_any _) (ge_any _) (ge_eq hn (by decide) (by decide) (by decide)) (by decide +kernel)
  by_cases h1_7 : fbi (ys 1) ≤ 2147483656
  · skip
    exact ge_run (Nat.le_refl 5) frow_46_1_8_8 (ge_any _) ⟨by omega, by omega⟩ (ge_any _) (ge_any _) (ge_any _) (ge_eq hn (by decide) (by decide) (by decide)) (by decide +kernel)
  by_cases h1_8 : fbi (ys 1) ≤ 2147483657
  · skip
    exact ge_run (Nat.le_refl 5) frow_46_1_9_9 (ge_any _) ⟨by omega, by omega⟩ (ge_any _) (ge_any _) (ge_any _) (ge_eq hn (by decide) (by decide) (by decide)) (by decide +kernel)
  exact ge_run (Nat.le_refl 5) frow_46_1_10_2147483647 (ge_any _) ⟨by omega, by omega⟩ (ge_any _) (ge_any _) (ge_any _) (ge_eq hn (by decide) (by decide) (by decide)) (by decide +kernel)
theorem ge_c47 {b : Nat} {ys : Nat → Int32} (hn : ys 0 &&& 63 = Int32.ofNat 47) : ∃ n hr cr sr, cr ≤ 600006 ∧ sr ≤ 7302024 ∧ mh_run b 5 ys mj_P n 100 (0, [(0, .retAddr b)], [], [], 0, 0) = some (.inl (some (.int 1)), hr, cr, sr) := by
  exact ge_run (Nat.le_refl 5) frow_47 (ge_any _) (ge_any _) (ge_any _) (ge_any _) (ge_any _) (ge_eq hn (by decide) (by decide) (by decide)) (by decide +kernel)
theorem ge_c48 {b : Nat} {ys : Nat → Int32} (hn : ys 0 &&& 63 = Int32.ofNat 48) : ∃ n hr cr sr, cr ≤ 600006 ∧ sr ≤ 7302024 ∧ mh_run b 5 ys mj_P n 100 (0, [(0, .retAddr b)], [], [], 0, 0) = some (.inl (some (.int 1)), hr, cr, sr) := by
  exact ge_run (Nat.le_refl 5) frow_48 (ge_any _) (ge_any _) (ge_any _) (ge_any _) (ge_any _) (ge_eq hn (by decide) (by decide) (by decide)) (by decide +kernel)
theorem ge_c49 {b : Nat} {ys : Nat → Int32} (hn : ys 0 &&& 63 = Int32.ofNat 49) : ∃ n hr cr sr, cr ≤ 600006 ∧ sr ≤ 7302024 ∧ mh_run b 5 ys mj_P n 100 (0, [(0, .retAddr b)], [], [], 0, 0) = some (.inl (some (.int 1)), hr, cr, sr) := by
  exact ge_run (Nat.le_refl 5) frow_49 (ge_any _) (ge_any _) (ge_any _) (ge_any _) (ge_any _) (ge_eq hn (by decide) (by decide) (by decide)) (by decide +kernel)
theorem ge_c50 {b : Nat} {ys : Nat → Int32} (hn : ys 0 &&& 63 = Int32.ofNat 50) : ∃ n hr cr sr, cr ≤ 600006 ∧ sr ≤ 7302024 ∧ mh_run b 5 ys mj_P n 100 (0, [(0, .retAddr b)], [], [], 0, 0) = some (.inl (some (.int 1)), hr, cr, sr) := by
  exact ge_run (Nat.le_refl 5) frow_50 (ge_any _) (ge_any _) (ge_any _) (ge_any _) (ge_any _) (ge_eq hn (by decide) (by decide) (by decide)) (by decide +kernel)
theorem ge_c51 {b : Nat} {ys : Nat → Int32} (hn : ys 0 &&& 63 = Int32.ofNat 51) : ∃ n hr cr sr, cr ≤ 600006 ∧ sr ≤ 7302024 ∧ mh_run b 5 ys mj_P n 100 (0, [(0, .retAddr b)], [], [], 0, 0) = some (.inl (some (.int 1)), hr, cr, sr) := by
  exact ge_run (Nat.le_refl 5) frow_51 (ge_any _) (ge_any _) (ge_any _) (ge_any _) (ge_any _) (ge_eq hn (by decide) (by decide) (by decide)) (by decide +kernel)
theorem ge_c52 {b : Nat} {ys : Nat → Int32} (hn : ys 0 &&& 63 = Int32.ofNat 52) : ∃ n hr cr sr, cr ≤ 600006 ∧ sr ≤ 7302024 ∧ mh_run b 5 ys mj_P n 100 (0, [(0, .retAddr b)], [], [], 0, 0) = some (.inl (some (.int 1)), hr, cr, sr) := by
  exact ge_run (Nat.le_refl 5) frow_52 (ge_any _) (ge_any _) (ge_any _) (ge_any _) (ge_any _) (ge_eq hn (by decide) (by decide) (by decide)) (by decide +kernel)
theorem ge_c53 {b : Nat} {ys : Nat → Int32} (hn : ys 0 &&& 63 = Int32.ofNat 53) : ∃ n hr cr sr, cr ≤ 600006 ∧ sr ≤ 7302024 ∧ mh_run b 5 ys mj_P n 100 (0, [(0, .retAddr b)], [], [], 0, 0) = some (.inl (some (.int 1)), hr, cr, sr) := by
  exact ge_run (Nat.le_refl 5) frow_53 (ge_any _) (ge_any _) (ge_any _) (ge_any _) (ge_any _) (ge_eq hn (by decide) (by decide) (by decide)) (by decide +kernel)
theorem ge_c54 {b : Nat} {ys : Nat → Int32} (hn : ys 0 &&& 63 = Int32.ofNat 54) : ∃ n hr cr sr, cr ≤ 600006 ∧ sr ≤ 7302024 ∧ mh_run b 5 ys mj_P n 100 (0, [(0, .retAddr b)], [], [], 0, 0) = some (.inl (some (.int 1)), hr, cr, sr) := by
  exact ge_run (Nat.le_refl 5) frow_54 (ge_any _) (ge_any _) (ge_any _) (ge_any _) (ge_any _) (ge_eq hn (by decide) (by decide) (by decide)) (by decide +kernel)
theorem ge_c55 {b n : Nat} {ys : Nat → Int32} (h1 : 55 ≤ n) (h2 : n < 64) (hn : ys 0 &&& 63 = Int32.ofNat n) : ∃ n hr cr sr, cr ≤ 600006 ∧ sr ≤ 7302024 ∧ mh_run b 5 ys mj_P n 100 (0, [(0, .retAddr b)], [], [], 0, 0) = some (.inl (some (.int 1)), hr, cr, sr) :=
  ge_run (Nat.le_refl 5) frow_55 (ge_any _) (ge_any _) (ge_any _) (ge_any _) (ge_any _) (ge_eq hn (by omega) (by omega) (by omega)) (by decide +kernel)
theorem ge_5 {b : Nat} (ys : Nat → Int32) : ∃ n hr cr sr, cr ≤ 600006 ∧ sr ≤ 7302024 ∧ mh_run b 5 ys mj_P n 100 (0, [(0, .retAddr b)], [], [], 0, 0) = some (.inl (some (.int 1)), hr, cr, sr) := by
  obtain ⟨n, hlt, hn⟩ := ge_and (ys 0)
  by_cases h0 : n = 0
  · exact ge_c0 (h0 ▸ hn)
  by_cases h1 : n = 1
  · exact ge_c1 (h1 ▸ hn)
  by_cases h2 : n = 2
  · exact ge_c2 (h2 ▸ hn)
  by_cases h3 : n = 3
  · exact ge_c3 (h3 ▸ hn)
  by_cases h4 : n = 4
  · exact ge_c4 (h4 ▸ hn)
  by_cases h5 : n = 5
  · exact ge_c5 (h5 ▸ hn)
  by_cases h6 : n = 6
  · exact ge_c6 (h6 ▸ hn)
  by_cases h7 : n = 7
  · exact ge_c7 (h7 ▸ hn)
  by_cases h8 : n = 8
  · exact ge_c8 (h8 ▸ hn)
  by_cases h9 : n = 9
  · exact ge_c9 (h9 ▸ hn)
  by_cases h10 : n = 10
  · exact ge_c10 (h10 ▸ hn)
  by_cases h11 : n = 11
  · exact ge_c11 (h11 ▸ hn)
  by_cases h12 : n = 12
  · exact ge_c12 (h12 ▸ hn)
  by_cases h13 : n = 13
  · exact ge_c13 (h13 ▸ hn)
  by_cases h14 : n = 14
  · exact ge_c14 (h14 ▸ hn)
  by_cases h15 : n = 15
  · exact ge_c15 (h15 ▸ hn)
  by_cases h16 : n = 16
  · exact ge_c16 (h16 ▸ hn)
  by_cases h17 : n = 17
  · exact ge_c17 (h17 ▸ hn)
  by_cases h18 : n = 18
  · exact ge_c18 (h18 ▸ hn)
  by_cases h19 : n = 19
  · exact ge_c19 (h19 ▸ hn)
  by_cases h20 : n = 20
  · exact ge_c20 (h20 ▸ hn)
  by_cases h21 : n = 21
  · exact ge_c21 (h21 ▸ hn)
  by_cases h22 : n = 22
  · exact ge_c22 (h22 ▸ hn)
  by_cases h23 : n = 23
  · exact ge_c23 (h23 ▸ hn)
  by_cases h24 : n = 24
  · exact ge_c24 (h24 ▸ hn)
  by_cases h25 : n = 25
  · exact ge_c25 (h25 ▸ hn)
  by_cases h26 : n = 26
  · exact ge_c26 (h26 ▸ hn)
  by_cases h27 : n = 27
  · exact ge_c27 (h27 ▸ hn)
  by_cases h28 : n = 28
  · exact ge_c28 (h28 ▸ hn)
  by_cases h29 : n = 29
  · exact ge_c29 (h29 ▸ hn)
  by_cases h30 : n = 30
  · exact ge_c30 (h30 ▸ hn)
  by_cases h31 : n = 31
  · exact ge_c31 (h31 ▸ hn)
  by_cases h32 : n = 32
  · exact ge_c32 (h32 ▸ hn)
  by_cases h33 : n = 33
  · exact ge_c33 (h33 ▸ hn)
  by_cases h34 : n = 34
  · exact ge_c34 (h34 ▸ hn)
  by_cases h35 : n = 35
  · exact ge_c35 (h35 ▸ hn)
  by_cases h36 : n = 36
  · exact ge_c36 (h36 ▸ hn)
  by_cases h37 : n = 37
  · exact ge_c37 (h37 ▸ hn)
  by_cases h38 : n = 38
  · exact ge_c38 (h38 ▸ hn)
  by_cases h39 : n = 39
  · exact ge_c39 (h39 ▸ hn)
  by_cases h40 : n = 40
  · exact ge_c40 (h40 ▸ hn)
  by_cases h41 : n = 41
  · exact ge_c41 (h41 ▸ hn)
  by_cases h42 : n = 42
  · exact ge_c42 (h42 ▸ hn)
  by_cases h43 : n = 43
  · exact ge_c43 (h43 ▸ hn)
  by_cases h44 : n = 44
  · exact ge_c44 (h44 ▸ hn)
  by_cases h45 : n = 45
  · exact ge_c45 (h45 ▸ hn)
  by_cases h46 : n = 46
  · exact ge_c46 (h46 ▸ hn)
  by_cases h47 : n = 47
  · exact ge_c47 (h47 ▸ hn)
  by_cases h48 : n = 48
  · exact ge_c48 (h48 ▸ hn)
  by_cases h49 : n = 49
  · exact ge_c49 (h49 ▸ hn)
  by_cases h50 : n = 50
  · exact ge_c50 (h50 ▸ hn)
  by_cases h51 : n = 51
  · exact ge_c51 (h51 ▸ hn)
  by_cases h52 : n = 52
  · exact ge_c52 (h52 ▸ hn)
  by_cases h53 : n = 53
  · exact ge_c53 (h53 ▸ hn)
  by_cases h54 : n = 54
  · exact ge_c54 (h54 ▸ hn)
  exact ge_c55 (by omega) hlt hn
theorem ge_all {L b : Nat} (hL : L ≤ 5) (ys : Nat → Int32) : ∃ n hr cr sr, cr ≤ 600006 ∧ sr ≤ 7302024 ∧ mh_run b L ys mj_P n 100 (0, [(0, .retAddr b)], [], [], 0, 0) = some (.inl (some (.int 1)), hr, cr, sr) := by
  match L, hL with
  | 0, _ => exact ge_s0 ys
  | 1, _ => exact ge_s1 ys
  | 2, _ => exact ge_s2 ys
  | 3, _ => exact ge_s3 ys
  | 4, _ => exact ge_s4 ys
  | 5, _ => exact ge_5 ys
  | L + 6, h => exact absurd h (by omega)
