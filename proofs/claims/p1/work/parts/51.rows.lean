theorem fk_b_40 : (Int8.ofInt (40)).toInt32 = Int32.ofNat 40 := by decide +kernel
theorem fk_b_31 : (Int8.ofInt (31)).toInt32 = Int32.ofNat 31 := by decide +kernel
theorem fk_b_61 : (Int8.ofInt (61)).toInt32 = Int32.ofNat 61 := by decide +kernel
theorem fk_c_0 : Int32.ofInt (0) = Int32.ofNat 0 := by decide +kernel
theorem fk_c_1 : Int32.ofInt (1) = Int32.ofNat 1 := by decide +kernel
theorem fk_b_41 : (Int8.ofInt (41)).toInt32 = Int32.ofNat 41 := by decide +kernel
theorem fk_c_m1 : Int32.ofInt (-1) = Int32.ofNat 4294967295 := by decide +kernel
theorem fk_b_60 : (Int8.ofInt (60)).toInt32 = Int32.ofNat 60 := by decide +kernel
theorem fk_s_160 : (Int16.ofInt (160)).toInt32 = Int32.ofNat 160 := by decide +kernel
theorem fk_c_2 : Int32.ofInt (2) = Int32.ofNat 2 := by decide +kernel
theorem fk_c_4 : Int32.ofInt (4) = Int32.ofNat 4 := by decide +kernel
theorem fk_b_8 : (Int8.ofInt (8)).toInt32 = Int32.ofNat 8 := by decide +kernel
theorem fk_b_16 : (Int8.ofInt (16)).toInt32 = Int32.ofNat 16 := by decide +kernel
theorem fk_b_63 : (Int8.ofInt (63)).toInt32 = Int32.ofNat 63 := by decide +kernel
theorem fk_c_3 : Int32.ofInt (3) = Int32.ofNat 3 := by decide +kernel
theorem fk_b_100 : (Int8.ofInt (100)).toInt32 = Int32.ofNat 100 := by decide +kernel
theorem fk_b_9 : (Int8.ofInt (9)).toInt32 = Int32.ofNat 9 := by decide +kernel
theorem fk_b_11 : (Int8.ofInt (11)).toInt32 = Int32.ofNat 11 := by decide +kernel
theorem fk_b_7 : (Int8.ofInt (7)).toInt32 = Int32.ofNat 7 := by decide +kernel
theorem fk_b_64 : (Int8.ofInt (64)).toInt32 = Int32.ofNat 64 := by decide +kernel
theorem fk_b_6 : (Int8.ofInt (6)).toInt32 = Int32.ofNat 6 := by decide +kernel
theorem fk_b_24 : (Int8.ofInt (24)).toInt32 = Int32.ofNat 24 := by decide +kernel
theorem fk_b_81 : (Int8.ofInt (81)).toInt32 = Int32.ofNat 81 := by decide +kernel
theorem fk_s_128 : (Int16.ofInt (128)).toInt32 = Int32.ofNat 128 := by decide +kernel
theorem fk_b_120 : (Int8.ofInt (120)).toInt32 = Int32.ofNat 120 := by decide +kernel
theorem fk_c_5 : Int32.ofInt (5) = Int32.ofNat 5 := by decide +kernel
theorem fk_b_14 : (Int8.ofInt (14)).toInt32 = Int32.ofNat 14 := by decide +kernel
theorem fk_b_19 : (Int8.ofInt (19)).toInt32 = Int32.ofNat 19 := by decide +kernel
theorem fk_b_23 : (Int8.ofInt (23)).toInt32 = Int32.ofNat 23 := by decide +kernel
theorem fk_b_20 : (Int8.ofInt (20)).toInt32 = Int32.ofNat 20 := by decide +kernel
theorem fk_b_32 : (Int8.ofInt (32)).toInt32 = Int32.ofNat 32 := by decide +kernel
theorem fk_b_126 : (Int8.ofInt (126)).toInt32 = Int32.ofNat 126 := by decide +kernel
theorem fk_b_48 : (Int8.ofInt (48)).toInt32 = Int32.ofNat 48 := by decide +kernel
theorem fk_b_57 : (Int8.ofInt (57)).toInt32 = Int32.ofNat 57 := by decide +kernel
theorem fk_b_10 : (Int8.ofInt (10)).toInt32 = Int32.ofNat 10 := by decide +kernel
theorem fk_b_44 : (Int8.ofInt (44)).toInt32 = Int32.ofNat 44 := by decide +kernel
theorem fk_b_58 : (Int8.ofInt (58)).toInt32 = Int32.ofNat 58 := by decide +kernel
theorem fk_b_59 : (Int8.ofInt (59)).toInt32 = Int32.ofNat 59 := by decide +kernel
theorem fk_b_12 : (Int8.ofInt (12)).toInt32 = Int32.ofNat 12 := by decide +kernel
theorem fd_0 : fdec 0 6 0 = mj_df 0 := rfl
theorem fd_1 : fdec 1 3 0 = mj_df 1 := rfl
theorem fd_2 : fdec 2 5 0 = mj_df 2 := rfl
theorem fd_3 : fdec 3 2 0 = mj_df 3 := rfl
theorem fd_4 : fdec 4 2 0 = mj_df 4 := rfl
theorem fd_5 : fdec 5 3 0 = mj_df 5 := rfl
theorem fd_6 : fdec 6 14 0 = mj_df 6 := rfl
theorem fd_7 : fdec 7 14 0 = mj_df 7 := rfl
theorem fFil_0 : fFil ff_0 := fFil_nil
theorem fFil_1 : fFil ff_1 := fFil_cons (fFil_nil)
theorem fFil_2 : fFil ff_2 := fFil_cons (fFil_cons (fFil_nil))
theorem fFil_3 : fFil ff_3 := fFil_cons (fFil_cons (fFil_cons (fFil_nil)))
theorem fFil_4 : fFil ff_4 := fFil_cons (fFil_cons (fFil_cons (fFil_cons (fFil_nil))))
theorem fFil_5 : fFil ff_5 := fFil_cons (fFil_cons (fFil_cons (fFil_cons (fFil_cons (fFil_nil)))))
theorem fFil_6 : fFil ff_6 := fFil_cons (fFil_cons (fFil_cons (fFil_cons (fFil_cons (fFil_cons (fFil_nil))))))
theorem fFil_7 : fFil ff_7 := fFil_cons (fFil_cons (fFil_cons (fFil_cons (fFil_cons (fFil_cons (fFil_cons (fFil_nil)))))))
theorem fFil_8 : fFil ff_8 := fFil_cons (fFil_cons (fFil_cons (fFil_cons (fFil_cons (fFil_cons (fFil_cons (fFil_cons (fFil_nil))))))))
theorem fFil_9 : fFil ff_9 := fFil_cons (fFil_cons (fFil_cons (fFil_cons (fFil_cons (fFil_cons (fFil_cons (fFil_cons (fFil_cons (fFil_nil)))))))))
theorem fFil_10 : fFil ff_10 := fFil_cons (fFil_cons (fFil_cons (fFil_cons (fFil_cons (fFil_cons (fFil_cons (fFil_cons (fFil_cons (fFil_cons (fFil_nil))))))))))
theorem fFil_11 : fFil ff_11 := fFil_cons (fFil_cons (fFil_cons (fFil_cons (fFil_cons (fFil_cons (fFil_cons (fFil_cons (fFil_cons (fFil_cons (fFil_cons (fFil_nil)))))))))))
theorem fFil_12 : fFil ff_12 := fFil_cons (fFil_cons (fFil_cons (fFil_cons (fFil_cons (fFil_cons (fFil_cons (fFil_cons (fFil_cons (fFil_cons (fFil_cons (fFil_cons (fFil_nil))))))))))))
theorem fFil_13 : fFil ff_13 := fFil_cons (fFil_cons (fFil_cons (fFil_cons (fFil_cons (fFil_cons (fFil_cons (fFil_cons (fFil_cons (fFil_cons (fFil_cons (fFil_cons (fFil_cons (fFil_nil)))))))))))))
theorem fFil_14 : fFil ff_14 := fFil_cons (fFil_cons (fFil_cons (fFil_cons (fFil_cons (fFil_cons (fFil_cons (fFil_cons (fFil_cons (fFil_cons (fFil_cons (fFil_cons (fFil_cons (fFil_cons (fFil_nil))))))))))))))
theorem fFil_15 : fFil ff_15 := fFil_cons (fFil_cons (fFil_cons (fFil_cons (fFil_cons (fFil_cons (fFil_cons (fFil_cons (fFil_cons (fFil_cons (fFil_cons (fFil_cons (fFil_cons (fFil_cons (fFil_cons (fFil_nil)))))))))))))))
theorem fFil_16 : fFil ff_16 := fFil_cons (fFil_cons (fFil_cons (fFil_cons (fFil_cons (fFil_cons (fFil_cons (fFil_cons (fFil_cons (fFil_cons (fFil_cons (fFil_cons (fFil_cons (fFil_cons (fFil_cons (fFil_cons (fFil_nil))))))))))))))))
theorem fFil_17 : fFil ff_17 := fFil_cons (fFil_cons (fFil_cons (fFil_cons (fFil_cons (fFil_cons (fFil_cons (fFil_cons (fFil_cons (fFil_cons (fFil_cons (fFil_cons (fFil_cons (fFil_cons (fFil_cons (fFil_cons (fFil_cons (fFil_nil)))))))))))))))))
theorem fFil_18 : fFil ff_18 := fFil_cons (fFil_cons (fFil_cons (fFil_cons (fFil_cons (fFil_cons (fFil_cons (fFil_cons (fFil_cons (fFil_cons (fFil_cons (fFil_cons (fFil_cons (fFil_cons (fFil_cons (fFil_cons (fFil_cons (fFil_cons (fFil_nil))))))))))))))))))
theorem fFil_19 : fFil ff_19 := fFil_cons (fFil_cons (fFil_cons (fFil_cons (fFil_cons (fFil_cons (fFil_cons (fFil_cons (fFil_cons (fFil_cons (fFil_cons (fFil_cons (fFil_cons (fFil_cons (fFil_cons (fFil_cons (fFil_cons (fFil_cons (fFil_cons (fFil_nil)))))))))))))))))))
theorem fFil_20 : fFil ff_20 := fFil_cons (fFil_cons (fFil_cons (fFil_cons (fFil_cons (fFil_cons (fFil_cons (fFil_cons (fFil_cons (fFil_cons (fFil_cons (fFil_cons (fFil_cons (fFil_cons (fFil_cons (fFil_cons (fFil_cons (fFil_cons (fFil_cons (fFil_cons (fFil_nil))))))))))))))))))))
theorem fFil_21 : fFil ff_21 := fFil_cons (fFil_cons (fFil_cons (fFil_cons (fFil_cons (fFil_cons (fFil_cons (fFil_cons (fFil_cons (fFil_cons (fFil_cons (fFil_cons (fFil_cons (fFil_cons (fFil_cons (fFil_cons (fFil_cons (fFil_cons (fFil_cons (fFil_cons (fFil_cons (fFil_nil)))))))))))))))))))))
theorem fFil_22 : fFil ff_22 := fFil_cons (fFil_cons (fFil_cons (fFil_cons (fFil_cons (fFil_cons (fFil_cons (fFil_cons (fFil_cons (fFil_cons (fFil_cons (fFil_cons (fFil_cons (fFil_cons (fFil_cons (fFil_cons (fFil_cons (fFil_cons (fFil_cons (fFil_cons (fFil_cons (fFil_cons (fFil_nil))))))))))))))))))))))
theorem fFil_23 : fFil ff_23 := fFil_cons (fFil_cons (fFil_cons (fFil_cons (fFil_cons (fFil_cons (fFil_cons (fFil_cons (fFil_cons (fFil_cons (fFil_cons (fFil_cons (fFil_cons (fFil_cons (fFil_cons (fFil_cons (fFil_cons (fFil_cons (fFil_cons (fFil_cons (fFil_cons (fFil_cons (fFil_cons (fFil_nil)))))))))))))))))))))))
