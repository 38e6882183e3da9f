set_option maxRecDepth 100000 in
/-- the law's own table is the law's bytes -/
theorem mh_ck : mj_ck 13 code false 9 0 (mj_P 327).2.2.2.1 = true := by decide +kernel
