set_option maxRecDepth 100000 in
theorem mh_ck_128 : mj_ck 13 code false 9 128 ((mh_C.drop 128).take 4) = true := by decide +kernel
set_option maxRecDepth 100000 in
theorem mh_ck_132 : mj_ck 13 code false 9 132 ((mh_C.drop 132).take 4) = true := by decide +kernel
set_option maxRecDepth 100000 in
theorem mh_ck_136 : mj_ck 13 code false 9 136 ((mh_C.drop 136).take 4) = true := by decide +kernel
set_option maxRecDepth 100000 in
theorem mh_ck_140 : mj_ck 13 code false 9 140 ((mh_C.drop 140).take 4) = true := by decide +kernel
set_option maxRecDepth 100000 in
theorem mh_ck_144 : mj_ck 13 code false 9 144 ((mh_C.drop 144).take 4) = true := by decide +kernel
set_option maxRecDepth 100000 in
theorem mh_ck_148 : mj_ck 13 code false 9 148 ((mh_C.drop 148).take 4) = true := by decide +kernel
set_option maxRecDepth 100000 in
theorem mh_ck_152 : mj_ck 13 code false 9 152 ((mh_C.drop 152).take 4) = true := by decide +kernel
set_option maxRecDepth 100000 in
theorem mh_ck_156 : mj_ck 13 code false 9 156 ((mh_C.drop 156).take 4) = true := by decide +kernel
set_option maxRecDepth 100000 in
theorem mh_ck_160 : mj_ck 13 code false 9 160 ((mh_C.drop 160).take 4) = true := by decide +kernel
set_option maxRecDepth 100000 in
theorem mh_ck_164 : mj_ck 13 code false 9 164 ((mh_C.drop 164).take 4) = true := by decide +kernel
set_option maxRecDepth 100000 in
theorem mh_ck_168 : mj_ck 13 code false 9 168 ((mh_C.drop 168).take 4) = true := by decide +kernel
set_option maxRecDepth 100000 in
theorem mh_ck_172 : mj_ck 13 code false 9 172 ((mh_C.drop 172).take 4) = true := by decide +kernel
set_option maxRecDepth 100000 in
theorem mh_ck_176 : mj_ck 13 code false 9 176 ((mh_C.drop 176).take 4) = true := by decide +kernel
set_option maxRecDepth 100000 in
theorem mh_ck_180 : mj_ck 13 code false 9 180 ((mh_C.drop 180).take 4) = true := by decide +kernel
set_option maxRecDepth 100000 in
theorem mh_ck_184 : mj_ck 13 code false 9 184 ((mh_C.drop 184).take 4) = true := by decide +kernel
set_option maxRecDepth 100000 in
theorem mh_ck_188 : mj_ck 13 code false 9 188 ((mh_C.drop 188).take 4) = true := by decide +kernel
