def mj_mtc (μ : Nat) : Bool := decide ((mj_m μ).2.2.1 ≤ 80) && decide ((mj_P μ).2.2.2.2.isEmpty = (mj_m μ).2.2.2.2.1.isEmpty) && decide ((mj_P μ).2.2.1 = (mj_m μ).2.2.2.1) && decide ((mj_m μ).1.cls = mj_own (mj_P μ).1) && gk (mj_m μ).2.2.2.2.2.2.2.1 (.initialized (mj_m μ).1.cls) && plainFor (mj_m μ).1 && decide ((mj_m μ).1.cls ≠ "java/lang/invoke/MethodHandle" ∧ (mj_m μ).1.cls ≠ "java/lang/invoke/VarHandle")
set_option maxRecDepth 100000 in
theorem mj_mt_ok : mj_mu.all mj_mtc = true := by decide +kernel
theorem mj_code_good (t : mjT) : goodWord (mj_code t) = true := by
  unfold mj_code
  split <;> rfl
def mj_cwP (μ : Nat) : Prop := lw_tbl[(mj_m μ).2.2.2.2.2.1]? = some (mj_code (mj_m μ))
set_option maxRecDepth 100000 in
theorem mj_cw_0 : mj_cwP 0 := rfl
set_option maxRecDepth 100000 in
theorem mj_cw_1 : mj_cwP 1 := rfl
set_option maxRecDepth 100000 in
theorem mj_cw_2 : mj_cwP 2 := rfl
set_option maxRecDepth 100000 in
theorem mj_cw_3 : mj_cwP 3 := rfl
set_option maxRecDepth 100000 in
theorem mj_cw_4 : mj_cwP 4 := rfl
set_option maxRecDepth 100000 in
theorem mj_cw_5 : mj_cwP 5 := rfl
set_option maxRecDepth 100000 in
theorem mj_cw_6 : mj_cwP 6 := rfl
set_option maxRecDepth 100000 in
theorem mj_cw_7 : mj_cwP 7 := rfl
set_option maxRecDepth 100000 in
theorem mj_cw_8 : mj_cwP 8 := rfl
set_option maxRecDepth 100000 in
theorem mj_cw_9 : mj_cwP 9 := rfl
set_option maxRecDepth 100000 in
theorem mj_cw_10 : mj_cwP 10 := rfl
set_option maxRecDepth 100000 in
theorem mj_cw_11 : mj_cwP 11 := rfl
set_option maxRecDepth 100000 in
theorem mj_cw_12 : mj_cwP 12 := rfl
set_option maxRecDepth 100000 in
theorem mj_cw_13 : mj_cwP 13 := rfl
set_option maxRecDepth 100000 in
theorem mj_cw_14 : mj_cwP 14 := rfl
set_option maxRecDepth 100000 in
theorem mj_cw_15 : mj_cwP 15 := rfl
set_option maxRecDepth 100000 in
theorem mj_cw_16 : mj_cwP 16 := rfl
set_option maxRecDepth 100000 in
theorem mj_cw_17 : mj_cwP 17 := rfl
set_option maxRecDepth 100000 in
theorem mj_cw_18 : mj_cwP 18 := rfl
set_option maxRecDepth 100000 in
theorem mj_cw_19 : mj_cwP 19 := rfl
set_option maxRecDepth 100000 in
theorem mj_cw_20 : mj_cwP 20 := rfl
set_option maxRecDepth 100000 in
theorem mj_cw_21 : mj_cwP 21 := rfl
set_option maxRecDepth 100000 in
theorem mj_cw_22 : mj_cwP 22 := rfl
set_option maxRecDepth 100000 in
theorem mj_cw_23 : mj_cwP 23 := rfl
set_option maxRecDepth 100000 in
theorem mj_cw_24 : mj_cwP 24 := rfl
set_option maxRecDepth 100000 in
theorem mj_cw_25 : mj_cwP 25 := rfl
set_option maxRecDepth 100000 in
theorem mj_cw_26 : mj_cwP 26 := rfl
set_option maxRecDepth 100000 in
theorem mj_cw_27 : mj_cwP 27 := rfl
set_option maxRecDepth 100000 in
theorem mj_cw_28 : mj_cwP 28 := rfl
set_option maxRecDepth 100000 in
theorem mj_cw_29 : mj_cwP 29 := rfl
set_option maxRecDepth 100000 in
theorem mj_cw_30 : mj_cwP 30 := rfl
set_option maxRecDepth 100000 in
theorem mj_cw_31 : mj_cwP 31 := rfl
set_option maxRecDepth 100000 in
theorem mj_cw_32 : mj_cwP 32 := rfl
set_option maxRecDepth 100000 in
theorem mj_cw_33 : mj_cwP 33 := rfl
set_option maxRecDepth 100000 in
theorem mj_cw_34 : mj_cwP 34 := rfl
set_option maxRecDepth 100000 in
theorem mj_cw_35 : mj_cwP 35 := rfl
set_option maxRecDepth 100000 in
theorem mj_cw_36 : mj_cwP 36 := rfl
set_option maxRecDepth 100000 in
theorem mj_cw_37 : mj_cwP 37 := rfl
set_option maxRecDepth 100000 in
theorem mj_cw_38 : mj_cwP 38 := rfl
set_option maxRecDepth 100000 in
theorem mj_cw_39 : mj_cwP 39 := rfl
def mj_mu_0 : List Nat := [0, 1, 2, 3, 4, 5, 6, 7, 8, 9, 10, 11, 12, 13, 14, 15, 16, 17, 18, 19, 20, 21, 22, 23, 24, 25, 26, 27, 28, 29, 30, 31, 32, 33, 34, 35, 36, 37, 38, 39]
theorem mj_cws_0 : ∀ μ ∈ mj_mu_0, mj_cwP μ := List.forall_mem_cons.mpr ⟨mj_cw_0, List.forall_mem_cons.mpr ⟨mj_cw_1, List.forall_mem_cons.mpr ⟨mj_cw_2, List.forall_mem_cons.mpr ⟨mj_cw_3, List.forall_mem_cons.mpr ⟨mj_cw_4, List.forall_mem_cons.mpr ⟨mj_cw_5, List.forall_mem_cons.mpr ⟨mj_cw_6, List.forall_mem_cons.mpr ⟨mj_cw_7, List.forall_mem_cons.mpr ⟨mj_cw_8, List.forall_mem_cons.mpr ⟨mj_cw_9, List.forall_mem_cons.mpr ⟨mj_cw_10, List.forall_mem_cons.mpr ⟨mj_cw_11, List.forall_mem_cons.mpr ⟨mj_cw_12, List.forall_mem_cons.mpr ⟨mj_cw_13, List.forall_mem_cons.mpr ⟨mj_cw_14, List.forall_mem_cons.mpr ⟨mj_cw_15, List.forall_mem_cons.mpr ⟨mj_cw_16, List.forall_mem_cons.mpr ⟨mj_cw_17, List.forall_mem_cons.mpr ⟨mj_cw_18, List.forall_mem_cons.mpr ⟨mj_cw_19, List.forall_mem_cons.mpr ⟨mj_cw_20, List.forall_mem_cons.mpr ⟨mj_cw_21, List.forall_mem_cons.mpr ⟨mj_cw_22, List.forall_mem_cons.mpr ⟨mj_cw_23, List.forall_mem_cons.mpr ⟨mj_cw_24, List.forall_mem_cons.mpr ⟨mj_cw_25, List.forall_mem_cons.mpr ⟨mj_cw_26, List.forall_mem_cons.mpr ⟨mj_cw_27, List.forall_mem_cons.mpr ⟨mj_cw_28, List.forall_mem_cons.mpr ⟨mj_cw_29, List.forall_mem_cons.mpr ⟨mj_cw_30, List.forall_mem_cons.mpr ⟨mj_cw_31, List.forall_mem_cons.mpr ⟨mj_cw_32, List.forall_mem_cons.mpr ⟨mj_cw_33, List.forall_mem_cons.mpr ⟨mj_cw_34, List.forall_mem_cons.mpr ⟨mj_cw_35, List.forall_mem_cons.mpr ⟨mj_cw_36, List.forall_mem_cons.mpr ⟨mj_cw_37, List.forall_mem_cons.mpr ⟨mj_cw_38, List.forall_mem_cons.mpr ⟨mj_cw_39, fun _ h => absurd h List.not_mem_nil⟩⟩⟩⟩⟩⟩⟩⟩⟩⟩⟩⟩⟩⟩⟩⟩⟩⟩⟩⟩⟩⟩⟩⟩⟩⟩⟩⟩⟩⟩⟩⟩⟩⟩⟩⟩⟩⟩⟩⟩
set_option maxRecDepth 100000 in
theorem mj_cw_40 : mj_cwP 40 := rfl
set_option maxRecDepth 100000 in
theorem mj_cw_41 : mj_cwP 41 := rfl
set_option maxRecDepth 100000 in
theorem mj_cw_42 : mj_cwP 42 := rfl
set_option maxRecDepth 100000 in
theorem mj_cw_43 : mj_cwP 43 := rfl
set_option maxRecDepth 100000 in
theorem mj_cw_44 : mj_cwP 44 := rfl
set_option maxRecDepth 100000 in
theorem mj_cw_45 : mj_cwP 45 := rfl
set_option maxRecDepth 100000 in
theorem mj_cw_46 : mj_cwP 46 := rfl
set_option maxRecDepth 100000 in
theorem mj_cw_47 : mj_cwP 47 := rfl
set_option maxRecDepth 100000 in
theorem mj_cw_48 : mj_cwP 48 := rfl
set_option maxRecDepth 100000 in
theorem mj_cw_49 : mj_cwP 49 := rfl
set_option maxRecDepth 100000 in
theorem mj_cw_50 : mj_cwP 50 := rfl
set_option maxRecDepth 100000 in
theorem mj_cw_51 : mj_cwP 51 := rfl
set_option maxRecDepth 100000 in
theorem mj_cw_52 : mj_cwP 52 := rfl
set_option maxRecDepth 100000 in
theorem mj_cw_53 : mj_cwP 53 := rfl
set_option maxRecDepth 100000 in
theorem mj_cw_54 : mj_cwP 54 := rfl
set_option maxRecDepth 100000 in
theorem mj_cw_55 : mj_cwP 55 := rfl
set_option maxRecDepth 100000 in
theorem mj_cw_56 : mj_cwP 56 := rfl
set_option maxRecDepth 100000 in
theorem mj_cw_57 : mj_cwP 57 := rfl
set_option maxRecDepth 100000 in
theorem mj_cw_58 : mj_cwP 58 := rfl
set_option maxRecDepth 100000 in
theorem mj_cw_59 : mj_cwP 59 := rfl
set_option maxRecDepth 100000 in
theorem mj_cw_60 : mj_cwP 60 := rfl
set_option maxRecDepth 100000 in
theorem mj_cw_61 : mj_cwP 61 := rfl
set_option maxRecDepth 100000 in
theorem mj_cw_62 : mj_cwP 62 := rfl
set_option maxRecDepth 100000 in
theorem mj_cw_63 : mj_cwP 63 := rfl
set_option maxRecDepth 100000 in
theorem mj_cw_64 : mj_cwP 64 := rfl
set_option maxRecDepth 100000 in
theorem mj_cw_65 : mj_cwP 65 := rfl
set_option maxRecDepth 100000 in
theorem mj_cw_66 : mj_cwP 66 := rfl
set_option maxRecDepth 100000 in
theorem mj_cw_67 : mj_cwP 67 := rfl
set_option maxRecDepth 100000 in
theorem mj_cw_68 : mj_cwP 68 := rfl
set_option maxRecDepth 100000 in
theorem mj_cw_69 : mj_cwP 69 := rfl
set_option maxRecDepth 100000 in
theorem mj_cw_70 : mj_cwP 70 := rfl
set_option maxRecDepth 100000 in
theorem mj_cw_71 : mj_cwP 71 := rfl
set_option maxRecDepth 100000 in
theorem mj_cw_72 : mj_cwP 72 := rfl
set_option maxRecDepth 100000 in
theorem mj_cw_73 : mj_cwP 73 := rfl
set_option maxRecDepth 100000 in
theorem mj_cw_74 : mj_cwP 74 := rfl
set_option maxRecDepth 100000 in
theorem mj_cw_75 : mj_cwP 75 := rfl
set_option maxRecDepth 100000 in
theorem mj_cw_76 : mj_cwP 76 := rfl
set_option maxRecDepth 100000 in
theorem mj_cw_77 : mj_cwP 77 := rfl
set_option maxRecDepth 100000 in
theorem mj_cw_78 : mj_cwP 78 := rfl
set_option maxRecDepth 100000 in
theorem mj_cw_79 : mj_cwP 79 := rfl
def mj_mu_1 : List Nat := [40, 41, 42, 43, 44, 45, 46, 47, 48, 49, 50, 51, 52, 53, 54, 55, 56, 57, 58, 59, 60, 61, 62, 63, 64, 65, 66, 67, 68, 69, 70, 71, 72, 73, 74, 75, 76, 77, 78, 79]
theorem mj_cws_1 : ∀ μ ∈ mj_mu_1, mj_cwP μ := List.forall_mem_cons.mpr ⟨mj_cw_40, List.forall_mem_cons.mpr ⟨mj_cw_41, List.forall_mem_cons.mpr ⟨mj_cw_42, List.forall_mem_cons.mpr ⟨mj_cw_43, List.forall_mem_cons.mpr ⟨mj_cw_44, List.forall_mem_cons.mpr ⟨mj_cw_45, List.forall_mem_cons.mpr ⟨mj_cw_46, List.forall_mem_cons.mpr ⟨mj_cw_47, List.forall_mem_cons.mpr ⟨mj_cw_48, List.forall_mem_cons.mpr ⟨mj_cw_49, List.forall_mem_cons.mpr ⟨mj_cw_50, List.forall_mem_cons.mpr ⟨mj_cw_51, List.forall_mem_cons.mpr ⟨mj_cw_52, List.forall_mem_cons.mpr ⟨mj_cw_53, List.forall_mem_cons.mpr ⟨mj_cw_54, List.forall_mem_cons.mpr ⟨mj_cw_55, List.forall_mem_cons.mpr ⟨mj_cw_56, List.forall_mem_cons.mpr ⟨mj_cw_57, List.forall_mem_cons.mpr ⟨mj_cw_58, List.forall_mem_cons.mpr ⟨mj_cw_59, List.forall_mem_cons.mpr ⟨mj_cw_60, List.forall_mem_cons.mpr ⟨mj_cw_61, List.forall_mem_cons.mpr ⟨mj_cw_62, List.forall_mem_cons.mpr ⟨mj_cw_63, List.forall_mem_cons.mpr ⟨mj_cw_64, List.forall_mem_cons.mpr ⟨mj_cw_65, List.forall_mem_cons.mpr ⟨mj_cw_66, List.forall_mem_cons.mpr ⟨mj_cw_67, List.forall_mem_cons.mpr ⟨mj_cw_68, List.forall_mem_cons.mpr ⟨mj_cw_69, List.forall_mem_cons.mpr ⟨mj_cw_70, List.forall_mem_cons.mpr ⟨mj_cw_71, List.forall_mem_cons.mpr ⟨mj_cw_72, List.forall_mem_cons.mpr ⟨mj_cw_73, List.forall_mem_cons.mpr ⟨mj_cw_74, List.forall_mem_cons.mpr ⟨mj_cw_75, List.forall_mem_cons.mpr ⟨mj_cw_76, List.forall_mem_cons.mpr ⟨mj_cw_77, List.forall_mem_cons.mpr ⟨mj_cw_78, List.forall_mem_cons.mpr ⟨mj_cw_79, fun _ h => absurd h List.not_mem_nil⟩⟩⟩⟩⟩⟩⟩⟩⟩⟩⟩⟩⟩⟩⟩⟩⟩⟩⟩⟩⟩⟩⟩⟩⟩⟩⟩⟩⟩⟩⟩⟩⟩⟩⟩⟩⟩⟩⟩⟩
set_option maxRecDepth 100000 in
theorem mj_cw_80 : mj_cwP 80 := rfl
set_option maxRecDepth 100000 in
theorem mj_cw_81 : mj_cwP 81 := rfl
set_option maxRecDepth 100000 in
theorem mj_cw_82 : mj_cwP 82 := rfl
set_option maxRecDepth 100000 in
theorem mj_cw_83 : mj_cwP 83 := rfl
set_option maxRecDepth 100000 in
theorem mj_cw_84 : mj_cwP 84 := rfl
set_option maxRecDepth 100000 in
theorem mj_cw_85 : mj_cwP 85 := rfl
set_option maxRecDepth 100000 in
theorem mj_cw_86 : mj_cwP 86 := rfl
set_option maxRecDepth 100000 in
theorem mj_cw_87 : mj_cwP 87 := rfl
set_option maxRecDepth 100000 in
theorem mj_cw_88 : mj_cwP 88 := rfl
set_option maxRecDepth 100000 in
theorem mj_cw_89 : mj_cwP 89 := rfl
set_option maxRecDepth 100000 in
theorem mj_cw_90 : mj_cwP 90 := rfl
set_option maxRecDepth 100000 in
theorem mj_cw_91 : mj_cwP 91 := rfl
set_option maxRecDepth 100000 in
theorem mj_cw_92 : mj_cwP 92 := rfl
set_option maxRecDepth 100000 in
theorem mj_cw_93 : mj_cwP 93 := rfl
set_option maxRecDepth 100000 in
theorem mj_cw_94 : mj_cwP 94 := rfl
set_option maxRecDepth 100000 in
theorem mj_cw_95 : mj_cwP 95 := rfl
set_option maxRecDepth 100000 in
theorem mj_cw_96 : mj_cwP 96 := rfl
set_option maxRecDepth 100000 in
theorem mj_cw_97 : mj_cwP 97 := rfl
set_option maxRecDepth 100000 in
theorem mj_cw_98 : mj_cwP 98 := rfl
set_option maxRecDepth 100000 in
theorem mj_cw_99 : mj_cwP 99 := rfl
set_option maxRecDepth 100000 in
theorem mj_cw_100 : mj_cwP 100 := rfl
set_option maxRecDepth 100000 in
theorem mj_cw_101 : mj_cwP 101 := rfl
set_option maxRecDepth 100000 in
theorem mj_cw_102 : mj_cwP 102 := rfl
set_option maxRecDepth 100000 in
theorem mj_cw_103 : mj_cwP 103 := rfl
set_option maxRecDepth 100000 in
theorem mj_cw_104 : mj_cwP 104 := rfl
set_option maxRecDepth 100000 in
theorem mj_cw_105 : mj_cwP 105 := rfl
set_option maxRecDepth 100000 in
theorem mj_cw_106 : mj_cwP 106 := rfl
set_option maxRecDepth 100000 in
theorem mj_cw_107 : mj_cwP 107 := rfl
set_option maxRecDepth 100000 in
theorem mj_cw_108 : mj_cwP 108 := rfl
set_option maxRecDepth 100000 in
theorem mj_cw_109 : mj_cwP 109 := rfl
set_option maxRecDepth 100000 in
theorem mj_cw_110 : mj_cwP 110 := rfl
set_option maxRecDepth 100000 in
theorem mj_cw_111 : mj_cwP 111 := rfl
set_option maxRecDepth 100000 in
theorem mj_cw_112 : mj_cwP 112 := rfl
set_option maxRecDepth 100000 in
theorem mj_cw_113 : mj_cwP 113 := rfl
set_option maxRecDepth 100000 in
theorem mj_cw_114 : mj_cwP 114 := rfl
set_option maxRecDepth 100000 in
theorem mj_cw_115 : mj_cwP 115 := rfl
set_option maxRecDepth 100000 in
theorem mj_cw_116 : mj_cwP 116 := rfl
set_option maxRecDepth 100000 in
theorem mj_cw_117 : mj_cwP 117 := rfl
set_option maxRecDepth 100000 in
theorem mj_cw_118 : mj_cwP 118 := rfl
set_option maxRecDepth 100000 in
theorem mj_cw_119 : mj_cwP 119 := rfl
def mj_mu_2 : List Nat := [80, 81, 82, 83, 84, 85, 86, 87, 88, 89, 90, 91, 92, 93, 94, 95, 96, 97, 98, 99, 100, 101, 102, 103, 104, 105, 106, 107, 108, 109, 110, 111, 112, 113, 114, 115, 116, 117, 118, 119]
theorem mj_cws_2 : ∀ μ ∈ mj_mu_2, mj_cwP μ := List.forall_mem_cons.mpr ⟨mj_cw_80, List.forall_mem_cons.mpr ⟨mj_cw_81, List.forall_mem_cons.mpr ⟨mj_cw_82, List.forall_mem_cons.mpr ⟨mj_cw_83, List.forall_mem_cons.mpr ⟨mj_cw_84, List.forall_mem_cons.mpr ⟨mj_cw_85, List.forall_mem_cons.mpr ⟨mj_cw_86, List.forall_mem_cons.mpr ⟨mj_cw_87, List.forall_mem_cons.mpr ⟨mj_cw_88, List.forall_mem_cons.mpr ⟨mj_cw_89, List.forall_mem_cons.mpr ⟨mj_cw_90, List.forall_mem_cons.mpr ⟨mj_cw_91, List.forall_mem_cons.mpr ⟨mj_cw_92, List.forall_mem_cons.mpr ⟨mj_cw_93, List.forall_mem_cons.mpr ⟨mj_cw_94, List.forall_mem_cons.mpr ⟨mj_cw_95, List.forall_mem_cons.mpr ⟨mj_cw_96, List.forall_mem_cons.mpr ⟨mj_cw_97, List.forall_mem_cons.mpr ⟨mj_cw_98, List.forall_mem_cons.mpr ⟨mj_cw_99, List.forall_mem_cons.mpr ⟨mj_cw_100, List.forall_mem_cons.mpr ⟨mj_cw_101, List.forall_mem_cons.mpr ⟨mj_cw_102, List.forall_mem_cons.mpr ⟨mj_cw_103, List.forall_mem_cons.mpr ⟨mj_cw_104, List.forall_mem_cons.mpr ⟨mj_cw_105, List.forall_mem_cons.mpr ⟨mj_cw_106, List.forall_mem_cons.mpr ⟨mj_cw_107, List.forall_mem_cons.mpr ⟨mj_cw_108, List.forall_mem_cons.mpr ⟨mj_cw_109, List.forall_mem_cons.mpr ⟨mj_cw_110, List.forall_mem_cons.mpr ⟨mj_cw_111, List.forall_mem_cons.mpr ⟨mj_cw_112, List.forall_mem_cons.mpr ⟨mj_cw_113, List.forall_mem_cons.mpr ⟨mj_cw_114, List.forall_mem_cons.mpr ⟨mj_cw_115, List.forall_mem_cons.mpr ⟨mj_cw_116, List.forall_mem_cons.mpr ⟨mj_cw_117, List.forall_mem_cons.mpr ⟨mj_cw_118, List.forall_mem_cons.mpr ⟨mj_cw_119, fun _ h => absurd h List.not_mem_nil⟩⟩⟩⟩⟩⟩⟩⟩⟩⟩⟩⟩⟩⟩⟩⟩⟩⟩⟩⟩⟩⟩⟩⟩⟩⟩⟩⟩⟩⟩⟩⟩⟩⟩⟩⟩⟩⟩⟩⟩
set_option maxRecDepth 100000 in
theorem mj_cw_120 : mj_cwP 120 := rfl
set_option maxRecDepth 100000 in
theorem mj_cw_121 : mj_cwP 121 := rfl
set_option maxRecDepth 100000 in
theorem mj_cw_122 : mj_cwP 122 := rfl
set_option maxRecDepth 100000 in
theorem mj_cw_123 : mj_cwP 123 := rfl
set_option maxRecDepth 100000 in
theorem mj_cw_124 : mj_cwP 124 := rfl
set_option maxRecDepth 100000 in
theorem mj_cw_125 : mj_cwP 125 := rfl
set_option maxRecDepth 100000 in
theorem mj_cw_126 : mj_cwP 126 := rfl
set_option maxRecDepth 100000 in
theorem mj_cw_127 : mj_cwP 127 := rfl
set_option maxRecDepth 100000 in
theorem mj_cw_128 : mj_cwP 128 := rfl
set_option maxRecDepth 100000 in
theorem mj_cw_129 : mj_cwP 129 := rfl
set_option maxRecDepth 100000 in
theorem mj_cw_130 : mj_cwP 130 := rfl
set_option maxRecDepth 100000 in
theorem mj_cw_131 : mj_cwP 131 := rfl
set_option maxRecDepth 100000 in
theorem mj_cw_132 : mj_cwP 132 := rfl
set_option maxRecDepth 100000 in
theorem mj_cw_133 : mj_cwP 133 := rfl
set_option maxRecDepth 100000 in
theorem mj_cw_134 : mj_cwP 134 := rfl
set_option maxRecDepth 100000 in
theorem mj_cw_135 : mj_cwP 135 := rfl
set_option maxRecDepth 100000 in
theorem mj_cw_136 : mj_cwP 136 := rfl
set_option maxRecDepth 100000 in
theorem mj_cw_137 : mj_cwP 137 := rfl
set_option maxRecDepth 100000 in
theorem mj_cw_138 : mj_cwP 138 := rfl
set_option maxRecDepth 100000 in
theorem mj_cw_139 : mj_cwP 139 := rfl
set_option maxRecDepth 100000 in
theorem mj_cw_140 : mj_cwP 140 := rfl
set_option maxRecDepth 100000 in
theorem mj_cw_141 : mj_cwP 141 := rfl
set_option maxRecDepth 100000 in
theorem mj_cw_142 : mj_cwP 142 := rfl
set_option maxRecDepth 100000 in
theorem mj_cw_143 : mj_cwP 143 := rfl
set_option maxRecDepth 100000 in
theorem mj_cw_144 : mj_cwP 144 := rfl
set_option maxRecDepth 100000 in
theorem mj_cw_145 : mj_cwP 145 := rfl
set_option maxRecDepth 100000 in
theorem mj_cw_146 : mj_cwP 146 := rfl
set_option maxRecDepth 100000 in
theorem mj_cw_147 : mj_cwP 147 := rfl
set_option maxRecDepth 100000 in
theorem mj_cw_148 : mj_cwP 148 := rfl
set_option maxRecDepth 100000 in
theorem mj_cw_149 : mj_cwP 149 := rfl
set_option maxRecDepth 100000 in
theorem mj_cw_150 : mj_cwP 150 := rfl
set_option maxRecDepth 100000 in
theorem mj_cw_151 : mj_cwP 151 := rfl
set_option maxRecDepth 100000 in
theorem mj_cw_152 : mj_cwP 152 := rfl
set_option maxRecDepth 100000 in
theorem mj_cw_153 : mj_cwP 153 := rfl
set_option maxRecDepth 100000 in
theorem mj_cw_154 : mj_cwP 154 := rfl
set_option maxRecDepth 100000 in
theorem mj_cw_155 : mj_cwP 155 := rfl
set_option maxRecDepth 100000 in
theorem mj_cw_156 : mj_cwP 156 := rfl
set_option maxRecDepth 100000 in
theorem mj_cw_157 : mj_cwP 157 := rfl
set_option maxRecDepth 100000 in
theorem mj_cw_158 : mj_cwP 158 := rfl
set_option maxRecDepth 100000 in
theorem mj_cw_159 : mj_cwP 159 := rfl
def mj_mu_3 : List Nat := [120, 121, 122, 123, 124, 125, 126, 127, 128, 129, 130, 131, 132, 133, 134, 135, 136, 137, 138, 139, 140, 141, 142, 143, 144, 145, 146, 147, 148, 149, 150, 151, 152, 153, 154, 155, 156, 157, 158, 159]
theorem mj_cws_3 : ∀ μ ∈ mj_mu_3, mj_cwP μ := List.forall_mem_cons.mpr ⟨mj_cw_120, List.forall_mem_cons.mpr ⟨mj_cw_121, List.forall_mem_cons.mpr ⟨mj_cw_122, List.forall_mem_cons.mpr ⟨mj_cw_123, List.forall_mem_cons.mpr ⟨mj_cw_124, List.forall_mem_cons.mpr ⟨mj_cw_125, List.forall_mem_cons.mpr ⟨mj_cw_126, List.forall_mem_cons.mpr ⟨mj_cw_127, List.forall_mem_cons.mpr ⟨mj_cw_128, List.forall_mem_cons.mpr ⟨mj_cw_129, List.forall_mem_cons.mpr ⟨mj_cw_130, List.forall_mem_cons.mpr ⟨mj_cw_131, List.forall_mem_cons.mpr ⟨mj_cw_132, List.forall_mem_cons.mpr ⟨mj_cw_133, List.forall_mem_cons.mpr ⟨mj_cw_134, List.forall_mem_cons.mpr ⟨mj_cw_135, List.forall_mem_cons.mpr ⟨mj_cw_136, List.forall_mem_cons.mpr ⟨mj_cw_137, List.forall_mem_cons.mpr ⟨mj_cw_138, List.forall_mem_cons.mpr ⟨mj_cw_139, List.forall_mem_cons.mpr ⟨mj_cw_140, List.forall_mem_cons.mpr ⟨mj_cw_141, List.forall_mem_cons.mpr ⟨mj_cw_142, List.forall_mem_cons.mpr ⟨mj_cw_143, List.forall_mem_cons.mpr ⟨mj_cw_144, List.forall_mem_cons.mpr ⟨mj_cw_145, List.forall_mem_cons.mpr ⟨mj_cw_146, List.forall_mem_cons.mpr ⟨mj_cw_147, List.forall_mem_cons.mpr ⟨mj_cw_148, List.forall_mem_cons.mpr ⟨mj_cw_149, List.forall_mem_cons.mpr ⟨mj_cw_150, List.forall_mem_cons.mpr ⟨mj_cw_151, List.forall_mem_cons.mpr ⟨mj_cw_152, List.forall_mem_cons.mpr ⟨mj_cw_153, List.forall_mem_cons.mpr ⟨mj_cw_154, List.forall_mem_cons.mpr ⟨mj_cw_155, List.forall_mem_cons.mpr ⟨mj_cw_156, List.forall_mem_cons.mpr ⟨mj_cw_157, List.forall_mem_cons.mpr ⟨mj_cw_158, List.forall_mem_cons.mpr ⟨mj_cw_159, fun _ h => absurd h List.not_mem_nil⟩⟩⟩⟩⟩⟩⟩⟩⟩⟩⟩⟩⟩⟩⟩⟩⟩⟩⟩⟩⟩⟩⟩⟩⟩⟩⟩⟩⟩⟩⟩⟩⟩⟩⟩⟩⟩⟩⟩⟩
set_option maxRecDepth 100000 in
theorem mj_cw_160 : mj_cwP 160 := rfl
set_option maxRecDepth 100000 in
theorem mj_cw_161 : mj_cwP 161 := rfl
set_option maxRecDepth 100000 in
theorem mj_cw_162 : mj_cwP 162 := rfl
set_option maxRecDepth 100000 in
theorem mj_cw_163 : mj_cwP 163 := rfl
set_option maxRecDepth 100000 in
theorem mj_cw_164 : mj_cwP 164 := rfl
set_option maxRecDepth 100000 in
theorem mj_cw_165 : mj_cwP 165 := rfl
set_option maxRecDepth 100000 in
theorem mj_cw_166 : mj_cwP 166 := rfl
set_option maxRecDepth 100000 in
theorem mj_cw_167 : mj_cwP 167 := rfl
set_option maxRecDepth 100000 in
theorem mj_cw_168 : mj_cwP 168 := rfl
set_option maxRecDepth 100000 in
theorem mj_cw_169 : mj_cwP 169 := rfl
set_option maxRecDepth 100000 in
theorem mj_cw_170 : mj_cwP 170 := rfl
set_option maxRecDepth 100000 in
theorem mj_cw_171 : mj_cwP 171 := rfl
set_option maxRecDepth 100000 in
theorem mj_cw_172 : mj_cwP 172 := rfl
set_option maxRecDepth 100000 in
theorem mj_cw_173 : mj_cwP 173 := rfl
set_option maxRecDepth 100000 in
theorem mj_cw_174 : mj_cwP 174 := rfl
set_option maxRecDepth 100000 in
theorem mj_cw_175 : mj_cwP 175 := rfl
set_option maxRecDepth 100000 in
theorem mj_cw_176 : mj_cwP 176 := rfl
set_option maxRecDepth 100000 in
theorem mj_cw_177 : mj_cwP 177 := rfl
set_option maxRecDepth 100000 in
theorem mj_cw_178 : mj_cwP 178 := rfl
set_option maxRecDepth 100000 in
theorem mj_cw_179 : mj_cwP 179 := rfl
set_option maxRecDepth 100000 in
theorem mj_cw_180 : mj_cwP 180 := rfl
set_option maxRecDepth 100000 in
theorem mj_cw_181 : mj_cwP 181 := rfl
set_option maxRecDepth 100000 in
theorem mj_cw_182 : mj_cwP 182 := rfl
set_option maxRecDepth 100000 in
theorem mj_cw_183 : mj_cwP 183 := rfl
set_option maxRecDepth 100000 in
theorem mj_cw_184 : mj_cwP 184 := rfl
set_option maxRecDepth 100000 in
theorem mj_cw_185 : mj_cwP 185 := rfl
set_option maxRecDepth 100000 in
theorem mj_cw_186 : mj_cwP 186 := rfl
set_option maxRecDepth 100000 in
theorem mj_cw_187 : mj_cwP 187 := rfl
set_option maxRecDepth 100000 in
theorem mj_cw_188 : mj_cwP 188 := rfl
set_option maxRecDepth 100000 in
theorem mj_cw_189 : mj_cwP 189 := rfl
set_option maxRecDepth 100000 in
theorem mj_cw_190 : mj_cwP 190 := rfl
set_option maxRecDepth 100000 in
theorem mj_cw_191 : mj_cwP 191 := rfl
set_option maxRecDepth 100000 in
theorem mj_cw_192 : mj_cwP 192 := rfl
set_option maxRecDepth 100000 in
theorem mj_cw_193 : mj_cwP 193 := rfl
set_option maxRecDepth 100000 in
theorem mj_cw_194 : mj_cwP 194 := rfl
set_option maxRecDepth 100000 in
theorem mj_cw_195 : mj_cwP 195 := rfl
set_option maxRecDepth 100000 in
theorem mj_cw_196 : mj_cwP 196 := rfl
set_option maxRecDepth 100000 in
theorem mj_cw_197 : mj_cwP 197 := rfl
set_option maxRecDepth 100000 in
theorem mj_cw_198 : mj_cwP 198 := rfl
set_option maxRecDepth 100000 in
theorem mj_cw_199 : mj_cwP 199 := rfl
def mj_mu_4 : List Nat := [160, 161, 162, 163, 164, 165, 166, 167, 168, 169, 170, 171, 172, 173, 174, 175, 176, 177, 178, 179, 180, 181, 182, 183, 184, 185, 186, 187, 188, 189, 190, 191, 192, 193, 194, 195, 196, 197, 198, 199]
theorem mj_cws_4 : ∀ μ ∈ mj_mu_4, mj_cwP μ := List.forall_mem_cons.mpr ⟨mj_cw_160, List.forall_mem_cons.mpr ⟨mj_cw_161, List.forall_mem_cons.mpr ⟨mj_cw_162, List.forall_mem_cons.mpr ⟨mj_cw_163, List.forall_mem_cons.mpr ⟨mj_cw_164, List.forall_mem_cons.mpr ⟨mj_cw_165, List.forall_mem_cons.mpr ⟨mj_cw_166, List.forall_mem_cons.mpr ⟨mj_cw_167, List.forall_mem_cons.mpr ⟨mj_cw_168, List.forall_mem_cons.mpr ⟨mj_cw_169, List.forall_mem_cons.mpr ⟨mj_cw_170, List.forall_mem_cons.mpr ⟨mj_cw_171, List.forall_mem_cons.mpr ⟨mj_cw_172, List.forall_mem_cons.mpr ⟨mj_cw_173, List.forall_mem_cons.mpr ⟨mj_cw_174, List.forall_mem_cons.mpr ⟨mj_cw_175, List.forall_mem_cons.mpr ⟨mj_cw_176, List.forall_mem_cons.mpr ⟨mj_cw_177, List.forall_mem_cons.mpr ⟨mj_cw_178, List.forall_mem_cons.mpr ⟨mj_cw_179, List.forall_mem_cons.mpr ⟨mj_cw_180, List.forall_mem_cons.mpr ⟨mj_cw_181, List.forall_mem_cons.mpr ⟨mj_cw_182, List.forall_mem_cons.mpr ⟨mj_cw_183, List.forall_mem_cons.mpr ⟨mj_cw_184, List.forall_mem_cons.mpr ⟨mj_cw_185, List.forall_mem_cons.mpr ⟨mj_cw_186, List.forall_mem_cons.mpr ⟨mj_cw_187, List.forall_mem_cons.mpr ⟨mj_cw_188, List.forall_mem_cons.mpr ⟨mj_cw_189, List.forall_mem_cons.mpr ⟨mj_cw_190, List.forall_mem_cons.mpr ⟨mj_cw_191, List.forall_mem_cons.mpr ⟨mj_cw_192, List.forall_mem_cons.mpr ⟨mj_cw_193, List.forall_mem_cons.mpr ⟨mj_cw_194, List.forall_mem_cons.mpr ⟨mj_cw_195, List.forall_mem_cons.mpr ⟨mj_cw_196, List.forall_mem_cons.mpr ⟨mj_cw_197, List.forall_mem_cons.mpr ⟨mj_cw_198, List.forall_mem_cons.mpr ⟨mj_cw_199, fun _ h => absurd h List.not_mem_nil⟩⟩⟩⟩⟩⟩⟩⟩⟩⟩⟩⟩⟩⟩⟩⟩⟩⟩⟩⟩⟩⟩⟩⟩⟩⟩⟩⟩⟩⟩⟩⟩⟩⟩⟩⟩⟩⟩⟩⟩
set_option maxRecDepth 100000 in
theorem mj_cw_200 : mj_cwP 200 := rfl
set_option maxRecDepth 100000 in
theorem mj_cw_201 : mj_cwP 201 := rfl
set_option maxRecDepth 100000 in
theorem mj_cw_202 : mj_cwP 202 := rfl
set_option maxRecDepth 100000 in
theorem mj_cw_203 : mj_cwP 203 := rfl
set_option maxRecDepth 100000 in
theorem mj_cw_204 : mj_cwP 204 := rfl
set_option maxRecDepth 100000 in
theorem mj_cw_205 : mj_cwP 205 := rfl
set_option maxRecDepth 100000 in
theorem mj_cw_206 : mj_cwP 206 := rfl
set_option maxRecDepth 100000 in
theorem mj_cw_207 : mj_cwP 207 := rfl
set_option maxRecDepth 100000 in
theorem mj_cw_208 : mj_cwP 208 := rfl
set_option maxRecDepth 100000 in
theorem mj_cw_209 : mj_cwP 209 := rfl
set_option maxRecDepth 100000 in
theorem mj_cw_210 : mj_cwP 210 := rfl
set_option maxRecDepth 100000 in
theorem mj_cw_211 : mj_cwP 211 := rfl
set_option maxRecDepth 100000 in
theorem mj_cw_212 : mj_cwP 212 := rfl
set_option maxRecDepth 100000 in
theorem mj_cw_213 : mj_cwP 213 := rfl
set_option maxRecDepth 100000 in
theorem mj_cw_214 : mj_cwP 214 := rfl
set_option maxRecDepth 100000 in
theorem mj_cw_215 : mj_cwP 215 := rfl
set_option maxRecDepth 100000 in
theorem mj_cw_216 : mj_cwP 216 := rfl
set_option maxRecDepth 100000 in
theorem mj_cw_217 : mj_cwP 217 := rfl
set_option maxRecDepth 100000 in
theorem mj_cw_218 : mj_cwP 218 := rfl
set_option maxRecDepth 100000 in
theorem mj_cw_219 : mj_cwP 219 := rfl
set_option maxRecDepth 100000 in
theorem mj_cw_220 : mj_cwP 220 := rfl
set_option maxRecDepth 100000 in
theorem mj_cw_221 : mj_cwP 221 := rfl
set_option maxRecDepth 100000 in
theorem mj_cw_222 : mj_cwP 222 := rfl
set_option maxRecDepth 100000 in
theorem mj_cw_223 : mj_cwP 223 := rfl
set_option maxRecDepth 100000 in
theorem mj_cw_224 : mj_cwP 224 := rfl
set_option maxRecDepth 100000 in
theorem mj_cw_225 : mj_cwP 225 := rfl
set_option maxRecDepth 100000 in
theorem mj_cw_226 : mj_cwP 226 := rfl
set_option maxRecDepth 100000 in
theorem mj_cw_227 : mj_cwP 227 := rfl
set_option maxRecDepth 100000 in
theorem mj_cw_228 : mj_cwP 228 := rfl
set_option maxRecDepth 100000 in
theorem mj_cw_229 : mj_cwP 229 := rfl
set_option maxRecDepth 100000 in
theorem mj_cw_230 : mj_cwP 230 := rfl
set_option maxRecDepth 100000 in
theorem mj_cw_231 : mj_cwP 231 := rfl
set_option maxRecDepth 100000 in
theorem mj_cw_232 : mj_cwP 232 := rfl
set_option maxRecDepth 100000 in
theorem mj_cw_233 : mj_cwP 233 := rfl
set_option maxRecDepth 100000 in
theorem mj_cw_234 : mj_cwP 234 := rfl
set_option maxRecDepth 100000 in
theorem mj_cw_235 : mj_cwP 235 := rfl
set_option maxRecDepth 100000 in
theorem mj_cw_236 : mj_cwP 236 := rfl
set_option maxRecDepth 100000 in
theorem mj_cw_237 : mj_cwP 237 := rfl
set_option maxRecDepth 100000 in
theorem mj_cw_238 : mj_cwP 238 := rfl
set_option maxRecDepth 100000 in
theorem mj_cw_239 : mj_cwP 239 := rfl
def mj_mu_5 : List Nat := [200, 201, 202, 203, 204, 205, 206, 207, 208, 209, 210, 211, 212, 213, 214, 215, 216, 217, 218, 219, 220, 221, 222, 223, 224, 225, 226, 227, 228, 229, 230, 231, 232, 233, 234, 235, 236, 237, 238, 239]
theorem mj_cws_5 : ∀ μ ∈ mj_mu_5, mj_cwP μ := List.forall_mem_cons.mpr ⟨mj_cw_200, List.forall_mem_cons.mpr ⟨mj_cw_201, List.forall_mem_cons.mpr ⟨mj_cw_202, List.forall_mem_cons.mpr ⟨mj_cw_203, List.forall_mem_cons.mpr ⟨mj_cw_204, List.forall_mem_cons.mpr ⟨mj_cw_205, List.forall_mem_cons.mpr ⟨mj_cw_206, List.forall_mem_cons.mpr ⟨mj_cw_207, List.forall_mem_cons.mpr ⟨mj_cw_208, List.forall_mem_cons.mpr ⟨mj_cw_209, List.forall_mem_cons.mpr ⟨mj_cw_210, List.forall_mem_cons.mpr ⟨mj_cw_211, List.forall_mem_cons.mpr ⟨mj_cw_212, List.forall_mem_cons.mpr ⟨mj_cw_213, List.forall_mem_cons.mpr ⟨mj_cw_214, List.forall_mem_cons.mpr ⟨mj_cw_215, List.forall_mem_cons.mpr ⟨mj_cw_216, List.forall_mem_cons.mpr ⟨mj_cw_217, List.forall_mem_cons.mpr ⟨mj_cw_218, List.forall_mem_cons.mpr ⟨mj_cw_219, List.forall_mem_cons.mpr ⟨mj_cw_220, List.forall_mem_cons.mpr ⟨mj_cw_221, List.forall_mem_cons.mpr ⟨mj_cw_222, List.forall_mem_cons.mpr ⟨mj_cw_223, List.forall_mem_cons.mpr ⟨mj_cw_224, List.forall_mem_cons.mpr ⟨mj_cw_225, List.forall_mem_cons.mpr ⟨mj_cw_226, List.forall_mem_cons.mpr ⟨mj_cw_227, List.forall_mem_cons.mpr ⟨mj_cw_228, List.forall_mem_cons.mpr ⟨mj_cw_229, List.forall_mem_cons.mpr ⟨mj_cw_230, List.forall_mem_cons.mpr ⟨mj_cw_231, List.forall_mem_cons.mpr ⟨mj_cw_232, List.forall_mem_cons.mpr ⟨mj_cw_233, List.forall_mem_cons.mpr ⟨mj_cw_234, List.forall_mem_cons.mpr ⟨mj_cw_235, List.forall_mem_cons.mpr ⟨mj_cw_236, List.forall_mem_cons.mpr ⟨mj_cw_237, List.forall_mem_cons.mpr ⟨mj_cw_238, List.forall_mem_cons.mpr ⟨mj_cw_239, fun _ h => absurd h List.not_mem_nil⟩⟩⟩⟩⟩⟩⟩⟩⟩⟩⟩⟩⟩⟩⟩⟩⟩⟩⟩⟩⟩⟩⟩⟩⟩⟩⟩⟩⟩⟩⟩⟩⟩⟩⟩⟩⟩⟩⟩⟩
set_option maxRecDepth 100000 in
theorem mj_cw_240 : mj_cwP 240 := rfl
set_option maxRecDepth 100000 in
theorem mj_cw_241 : mj_cwP 241 := rfl
set_option maxRecDepth 100000 in
theorem mj_cw_242 : mj_cwP 242 := rfl
set_option maxRecDepth 100000 in
theorem mj_cw_243 : mj_cwP 243 := rfl
set_option maxRecDepth 100000 in
theorem mj_cw_244 : mj_cwP 244 := rfl
set_option maxRecDepth 100000 in
theorem mj_cw_245 : mj_cwP 245 := rfl
set_option maxRecDepth 100000 in
theorem mj_cw_246 : mj_cwP 246 := rfl
set_option maxRecDepth 100000 in
theorem mj_cw_247 : mj_cwP 247 := rfl
set_option maxRecDepth 100000 in
theorem mj_cw_248 : mj_cwP 248 := rfl
set_option maxRecDepth 100000 in
theorem mj_cw_249 : mj_cwP 249 := rfl
set_option maxRecDepth 100000 in
theorem mj_cw_250 : mj_cwP 250 := rfl
set_option maxRecDepth 100000 in
theorem mj_cw_251 : mj_cwP 251 := rfl
set_option maxRecDepth 100000 in
theorem mj_cw_252 : mj_cwP 252 := rfl
set_option maxRecDepth 100000 in
theorem mj_cw_253 : mj_cwP 253 := rfl
set_option maxRecDepth 100000 in
theorem mj_cw_254 : mj_cwP 254 := rfl
set_option maxRecDepth 100000 in
theorem mj_cw_255 : mj_cwP 255 := rfl
set_option maxRecDepth 100000 in
theorem mj_cw_256 : mj_cwP 256 := rfl
set_option maxRecDepth 100000 in
theorem mj_cw_257 : mj_cwP 257 := rfl
set_option maxRecDepth 100000 in
theorem mj_cw_258 : mj_cwP 258 := rfl
set_option maxRecDepth 100000 in
theorem mj_cw_259 : mj_cwP 259 := rfl
set_option maxRecDepth 100000 in
theorem mj_cw_260 : mj_cwP 260 := rfl
set_option maxRecDepth 100000 in
theorem mj_cw_261 : mj_cwP 261 := rfl
set_option maxRecDepth 100000 in
theorem mj_cw_262 : mj_cwP 262 := rfl
set_option maxRecDepth 100000 in
theorem mj_cw_263 : mj_cwP 263 := rfl
set_option maxRecDepth 100000 in
theorem mj_cw_264 : mj_cwP 264 := rfl
set_option maxRecDepth 100000 in
theorem mj_cw_265 : mj_cwP 265 := rfl
set_option maxRecDepth 100000 in
theorem mj_cw_266 : mj_cwP 266 := rfl
set_option maxRecDepth 100000 in
theorem mj_cw_267 : mj_cwP 267 := rfl
set_option maxRecDepth 100000 in
theorem mj_cw_268 : mj_cwP 268 := rfl
set_option maxRecDepth 100000 in
theorem mj_cw_269 : mj_cwP 269 := rfl
set_option maxRecDepth 100000 in
theorem mj_cw_270 : mj_cwP 270 := rfl
set_option maxRecDepth 100000 in
theorem mj_cw_271 : mj_cwP 271 := rfl
set_option maxRecDepth 100000 in
theorem mj_cw_272 : mj_cwP 272 := rfl
set_option maxRecDepth 100000 in
theorem mj_cw_273 : mj_cwP 273 := rfl
set_option maxRecDepth 100000 in
theorem mj_cw_274 : mj_cwP 274 := rfl
set_option maxRecDepth 100000 in
theorem mj_cw_275 : mj_cwP 275 := rfl
set_option maxRecDepth 100000 in
theorem mj_cw_276 : mj_cwP 276 := rfl
set_option maxRecDepth 100000 in
theorem mj_cw_277 : mj_cwP 277 := rfl
set_option maxRecDepth 100000 in
theorem mj_cw_278 : mj_cwP 278 := rfl
set_option maxRecDepth 100000 in
theorem mj_cw_279 : mj_cwP 279 := rfl
def mj_mu_6 : List Nat := [240, 241, 242, 243, 244, 245, 246, 247, 248, 249, 250, 251, 252, 253, 254, 255, 256, 257, 258, 259, 260, 261, 262, 263, 264, 265, 266, 267, 268, 269, 270, 271, 272, 273, 274, 275, 276, 277, 278, 279]
theorem mj_cws_6 : ∀ μ ∈ mj_mu_6, mj_cwP μ := List.forall_mem_cons.mpr ⟨mj_cw_240, List.forall_mem_cons.mpr ⟨mj_cw_241, List.forall_mem_cons.mpr ⟨mj_cw_242, List.forall_mem_cons.mpr ⟨mj_cw_243, List.forall_mem_cons.mpr ⟨mj_cw_244, List.forall_mem_cons.mpr ⟨mj_cw_245, List.forall_mem_cons.mpr ⟨mj_cw_246, List.forall_mem_cons.mpr ⟨mj_cw_247, List.forall_mem_cons.mpr ⟨mj_cw_248, List.forall_mem_cons.mpr ⟨mj_cw_249, List.forall_mem_cons.mpr ⟨mj_cw_250, List.forall_mem_cons.mpr ⟨mj_cw_251, List.forall_mem_cons.mpr ⟨mj_cw_252, List.forall_mem_cons.mpr ⟨mj_cw_253, List.forall_mem_cons.mpr ⟨mj_cw_254, List.forall_mem_cons.mpr ⟨mj_cw_255, List.forall_mem_cons.mpr ⟨mj_cw_256, List.forall_mem_cons.mpr ⟨mj_cw_257, List.forall_mem_cons.mpr ⟨mj_cw_258, List.forall_mem_cons.mpr ⟨mj_cw_259, List.forall_mem_cons.mpr ⟨mj_cw_260, List.forall_mem_cons.mpr ⟨mj_cw_261, List.forall_mem_cons.mpr ⟨mj_cw_262, List.forall_mem_cons.mpr ⟨mj_cw_263, List.forall_mem_cons.mpr ⟨mj_cw_264, List.forall_mem_cons.mpr ⟨mj_cw_265, List.forall_mem_cons.mpr ⟨mj_cw_266, List.forall_mem_cons.mpr ⟨mj_cw_267, List.forall_mem_cons.mpr ⟨mj_cw_268, List.forall_mem_cons.mpr ⟨mj_cw_269, List.forall_mem_cons.mpr ⟨mj_cw_270, List.forall_mem_cons.mpr ⟨mj_cw_271, List.forall_mem_cons.mpr ⟨mj_cw_272, List.forall_mem_cons.mpr ⟨mj_cw_273, List.forall_mem_cons.mpr ⟨mj_cw_274, List.forall_mem_cons.mpr ⟨mj_cw_275, List.forall_mem_cons.mpr ⟨mj_cw_276, List.forall_mem_cons.mpr ⟨mj_cw_277, List.forall_mem_cons.mpr ⟨mj_cw_278, List.forall_mem_cons.mpr ⟨mj_cw_279, fun _ h => absurd h List.not_mem_nil⟩⟩⟩⟩⟩⟩⟩⟩⟩⟩⟩⟩⟩⟩⟩⟩⟩⟩⟩⟩⟩⟩⟩⟩⟩⟩⟩⟩⟩⟩⟩⟩⟩⟩⟩⟩⟩⟩⟩⟩
set_option maxRecDepth 100000 in
theorem mj_cw_280 : mj_cwP 280 := rfl
set_option maxRecDepth 100000 in
theorem mj_cw_281 : mj_cwP 281 := rfl
set_option maxRecDepth 100000 in
theorem mj_cw_282 : mj_cwP 282 := rfl
set_option maxRecDepth 100000 in
theorem mj_cw_283 : mj_cwP 283 := rfl
set_option maxRecDepth 100000 in
theorem mj_cw_284 : mj_cwP 284 := rfl
set_option maxRecDepth 100000 in
theorem mj_cw_285 : mj_cwP 285 := rfl
set_option maxRecDepth 100000 in
theorem mj_cw_286 : mj_cwP 286 := rfl
set_option maxRecDepth 100000 in
theorem mj_cw_287 : mj_cwP 287 := rfl
set_option maxRecDepth 100000 in
theorem mj_cw_288 : mj_cwP 288 := rfl
set_option maxRecDepth 100000 in
theorem mj_cw_289 : mj_cwP 289 := rfl
set_option maxRecDepth 100000 in
theorem mj_cw_290 : mj_cwP 290 := rfl
set_option maxRecDepth 100000 in
theorem mj_cw_291 : mj_cwP 291 := rfl
set_option maxRecDepth 100000 in
theorem mj_cw_292 : mj_cwP 292 := rfl
set_option maxRecDepth 100000 in
theorem mj_cw_293 : mj_cwP 293 := rfl
set_option maxRecDepth 100000 in
theorem mj_cw_294 : mj_cwP 294 := rfl
set_option maxRecDepth 100000 in
theorem mj_cw_295 : mj_cwP 295 := rfl
set_option maxRecDepth 100000 in
theorem mj_cw_296 : mj_cwP 296 := rfl
set_option maxRecDepth 100000 in
theorem mj_cw_297 : mj_cwP 297 := rfl
set_option maxRecDepth 100000 in
theorem mj_cw_298 : mj_cwP 298 := rfl
set_option maxRecDepth 100000 in
theorem mj_cw_299 : mj_cwP 299 := rfl
set_option maxRecDepth 100000 in
theorem mj_cw_300 : mj_cwP 300 := rfl
set_option maxRecDepth 100000 in
theorem mj_cw_301 : mj_cwP 301 := rfl
set_option maxRecDepth 100000 in
theorem mj_cw_302 : mj_cwP 302 := rfl
set_option maxRecDepth 100000 in
theorem mj_cw_303 : mj_cwP 303 := rfl
set_option maxRecDepth 100000 in
theorem mj_cw_304 : mj_cwP 304 := rfl
set_option maxRecDepth 100000 in
theorem mj_cw_305 : mj_cwP 305 := rfl
set_option maxRecDepth 100000 in
theorem mj_cw_306 : mj_cwP 306 := rfl
set_option maxRecDepth 100000 in
theorem mj_cw_307 : mj_cwP 307 := rfl
set_option maxRecDepth 100000 in
theorem mj_cw_308 : mj_cwP 308 := rfl
set_option maxRecDepth 100000 in
theorem mj_cw_309 : mj_cwP 309 := rfl
set_option maxRecDepth 100000 in
theorem mj_cw_310 : mj_cwP 310 := rfl
set_option maxRecDepth 100000 in
theorem mj_cw_311 : mj_cwP 311 := rfl
set_option maxRecDepth 100000 in
theorem mj_cw_312 : mj_cwP 312 := rfl
set_option maxRecDepth 100000 in
theorem mj_cw_313 : mj_cwP 313 := rfl
set_option maxRecDepth 100000 in
theorem mj_cw_314 : mj_cwP 314 := rfl
set_option maxRecDepth 100000 in
theorem mj_cw_315 : mj_cwP 315 := rfl
set_option maxRecDepth 100000 in
theorem mj_cw_316 : mj_cwP 316 := rfl
set_option maxRecDepth 100000 in
theorem mj_cw_317 : mj_cwP 317 := rfl
set_option maxRecDepth 100000 in
theorem mj_cw_318 : mj_cwP 318 := rfl
set_option maxRecDepth 100000 in
theorem mj_cw_319 : mj_cwP 319 := rfl
def mj_mu_7 : List Nat := [280, 281, 282, 283, 284, 285, 286, 287, 288, 289, 290, 291, 292, 293, 294, 295, 296, 297, 298, 299, 300, 301, 302, 303, 304, 305, 306, 307, 308, 309, 310, 311, 312, 313, 314, 315, 316, 317, 318, 319]
theorem mj_cws_7 : ∀ μ ∈ mj_mu_7, mj_cwP μ := List.forall_mem_cons.mpr ⟨mj_cw_280, List.forall_mem_cons.mpr ⟨mj_cw_281, List.forall_mem_cons.mpr ⟨mj_cw_282, List.forall_mem_cons.mpr ⟨mj_cw_283, List.forall_mem_cons.mpr ⟨mj_cw_284, List.forall_mem_cons.mpr ⟨mj_cw_285, List.forall_mem_cons.mpr ⟨mj_cw_286, List.forall_mem_cons.mpr ⟨mj_cw_287, List.forall_mem_cons.mpr ⟨mj_cw_288, List.forall_mem_cons.mpr ⟨mj_cw_289, List.forall_mem_cons.mpr ⟨mj_cw_290, List.forall_mem_cons.mpr ⟨mj_cw_291, List.forall_mem_cons.mpr ⟨mj_cw_292, List.forall_mem_cons.mpr ⟨mj_cw_293, List.forall_mem_cons.mpr ⟨mj_cw_294, List.forall_mem_cons.mpr ⟨mj_cw_295, List.forall_mem_cons.mpr ⟨mj_cw_296, List.forall_mem_cons.mpr ⟨mj_cw_297, List.forall_mem_cons.mpr ⟨mj_cw_298, List.forall_mem_cons.mpr ⟨mj_cw_299, List.forall_mem_cons.mpr ⟨mj_cw_300, List.forall_mem_cons.mpr ⟨mj_cw_301, List.forall_mem_cons.mpr ⟨mj_cw_302, List.forall_mem_cons.mpr ⟨mj_cw_303, List.forall_mem_cons.mpr ⟨mj_cw_304, List.forall_mem_cons.mpr ⟨mj_cw_305, List.forall_mem_cons.mpr ⟨mj_cw_306, List.forall_mem_cons.mpr ⟨mj_cw_307, List.forall_mem_cons.mpr ⟨mj_cw_308, List.forall_mem_cons.mpr ⟨mj_cw_309, List.forall_mem_cons.mpr ⟨mj_cw_310, List.forall_mem_cons.mpr ⟨mj_cw_311, List.forall_mem_cons.mpr ⟨mj_cw_312, List.forall_mem_cons.mpr ⟨mj_cw_313, List.forall_mem_cons.mpr ⟨mj_cw_314, List.forall_mem_cons.mpr ⟨mj_cw_315, List.forall_mem_cons.mpr ⟨mj_cw_316, List.forall_mem_cons.mpr ⟨mj_cw_317, List.forall_mem_cons.mpr ⟨mj_cw_318, List.forall_mem_cons.mpr ⟨mj_cw_319, fun _ h => absurd h List.not_mem_nil⟩⟩⟩⟩⟩⟩⟩⟩⟩⟩⟩⟩⟩⟩⟩⟩⟩⟩⟩⟩⟩⟩⟩⟩⟩⟩⟩⟩⟩⟩⟩⟩⟩⟩⟩⟩⟩⟩⟩⟩
set_option maxRecDepth 100000 in
theorem mj_cw_320 : mj_cwP 320 := rfl
set_option maxRecDepth 100000 in
theorem mj_cw_321 : mj_cwP 321 := rfl
set_option maxRecDepth 100000 in
theorem mj_cw_322 : mj_cwP 322 := rfl
set_option maxRecDepth 100000 in
theorem mj_cw_323 : mj_cwP 323 := rfl
set_option maxRecDepth 100000 in
theorem mj_cw_324 : mj_cwP 324 := rfl
set_option maxRecDepth 100000 in
theorem mj_cw_325 : mj_cwP 325 := rfl
set_option maxRecDepth 100000 in
theorem mj_cw_326 : mj_cwP 326 := rfl
set_option maxRecDepth 100000 in
theorem mj_cw_327 : mj_cwP 327 := rfl
set_option maxRecDepth 100000 in
theorem mj_cw_328 : mj_cwP 328 := rfl
def mj_mu_8 : List Nat := [320, 321, 322, 323, 324, 325, 326, 327, 328]
theorem mj_cws_8 : ∀ μ ∈ mj_mu_8, mj_cwP μ := List.forall_mem_cons.mpr ⟨mj_cw_320, List.forall_mem_cons.mpr ⟨mj_cw_321, List.forall_mem_cons.mpr ⟨mj_cw_322, List.forall_mem_cons.mpr ⟨mj_cw_323, List.forall_mem_cons.mpr ⟨mj_cw_324, List.forall_mem_cons.mpr ⟨mj_cw_325, List.forall_mem_cons.mpr ⟨mj_cw_326, List.forall_mem_cons.mpr ⟨mj_cw_327, List.forall_mem_cons.mpr ⟨mj_cw_328, fun _ h => absurd h List.not_mem_nil⟩⟩⟩⟩⟩⟩⟩⟩⟩
set_option maxRecDepth 100000 in
theorem mj_mu_app : mj_mu = mj_mu_0 ++ (mj_mu_1 ++ (mj_mu_2 ++ (mj_mu_3 ++ (mj_mu_4 ++ (mj_mu_5 ++ (mj_mu_6 ++ (mj_mu_7 ++ (mj_mu_8)))))))) := rfl
theorem mj_cw {μ : Nat} (h : μ ∈ mj_mu) : mj_code (mj_m μ) ∈ gw := by
  have h2 : mj_cwP μ := by
    rw [mj_mu_app] at h
    exact (List.mem_append.mp h).elim (mj_cws_0 μ) (fun h => (List.mem_append.mp h).elim (mj_cws_1 μ) (fun h => (List.mem_append.mp h).elim (mj_cws_2 μ) (fun h => (List.mem_append.mp h).elim (mj_cws_3 μ) (fun h => (List.mem_append.mp h).elim (mj_cws_4 μ) (fun h => (List.mem_append.mp h).elim (mj_cws_5 μ) (fun h => (List.mem_append.mp h).elim (mj_cws_6 μ) (fun h => (List.mem_append.mp h).elim (mj_cws_7 μ) (fun h => mj_cws_8 μ h))))))))
  exact List.mem_filter.mpr ⟨List.mem_of_getElem? h2, mj_code_good _⟩
