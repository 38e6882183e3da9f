set_option maxRecDepth 100000 in
theorem mh_ck_192 : mj_ck 13 code false 9 192 ((mh_C.drop 192).take 4) = true := by decide +kernel
set_option maxRecDepth 100000 in
theorem mh_ck_196 : mj_ck 13 code false 9 196 ((mh_C.drop 196).take 4) = true := by decide +kernel
set_option maxRecDepth 100000 in
theorem mh_ck_200 : mj_ck 13 code false 9 200 ((mh_C.drop 200).take 4) = true := by decide +kernel
set_option maxRecDepth 100000 in
theorem mh_ck_204 : mj_ck 13 code false 9 204 ((mh_C.drop 204).take 4) = true := by decide +kernel
set_option maxRecDepth 100000 in
theorem mh_ck_208 : mj_ck 13 code false 9 208 ((mh_C.drop 208).take 4) = true := by decide +kernel
set_option maxRecDepth 100000 in
theorem mh_ck_212 : mj_ck 13 code false 9 212 ((mh_C.drop 212).take 4) = true := by decide +kernel
set_option maxRecDepth 100000 in
theorem mh_ck_216 : mj_ck 13 code false 9 216 ((mh_C.drop 216).take 4) = true := by decide +kernel
set_option maxRecDepth 100000 in
theorem mh_ck_220 : mj_ck 13 code false 9 220 ((mh_C.drop 220).take 4) = true := by decide +kernel
set_option maxRecDepth 100000 in
theorem mh_ck_224 : mj_ck 13 code false 9 224 ((mh_C.drop 224).take 4) = true := by decide +kernel
set_option maxRecDepth 100000 in
theorem mh_ck_228 : mj_ck 13 code false 9 228 ((mh_C.drop 228).take 4) = true := by decide +kernel
set_option maxRecDepth 100000 in
theorem mh_ck_232 : mj_ck 13 code false 9 232 ((mh_C.drop 232).take 4) = true := by decide +kernel
set_option maxRecDepth 100000 in
theorem mh_ck_236 : mj_ck 13 code false 9 236 ((mh_C.drop 236).take 4) = true := by decide +kernel
set_option maxRecDepth 100000 in
theorem mh_ck_240 : mj_ck 13 code false 9 240 ((mh_C.drop 240).take 4) = true := by decide +kernel
set_option maxRecDepth 100000 in
theorem mh_ck_244 : mj_ck 13 code false 9 244 ((mh_C.drop 244).take 4) = true := by decide +kernel
set_option maxRecDepth 100000 in
theorem mh_ck_248 : mj_ck 13 code false 9 248 ((mh_C.drop 248).take 4) = true := by decide +kernel
set_option maxRecDepth 100000 in
theorem mh_ck_252 : mj_ck 13 code false 9 252 ((mh_C.drop 252).take 4) = true := by decide +kernel
theorem mh_ck_all : mj_ck 13 code false 9 256 (mh_C.drop 256) = true := by decide +kernel
theorem mh_ck : mj_ck 13 code false 9 0 (mj_P 329).2.2.2.1 = true := (mj_ck_drop 8 0 mh_ck_0 (mj_ck_drop 8 8 mh_ck_8 (mj_ck_drop 8 16 mh_ck_16 (mj_ck_drop 8 24 mh_ck_24 (mj_ck_drop 8 32 mh_ck_32 (mj_ck_drop 8 40 mh_ck_40 (mj_ck_drop 8 48 mh_ck_48 (mj_ck_drop 8 56 mh_ck_56 (mj_ck_drop 8 64 mh_ck_64 (mj_ck_drop 8 72 mh_ck_72 (mj_ck_drop 8 80 mh_ck_80 (mj_ck_drop 8 88 mh_ck_88 (mj_ck_drop 8 96 mh_ck_96 (mj_ck_drop 8 104 mh_ck_104 (mj_ck_drop 8 112 mh_ck_112 (mj_ck_drop 8 120 mh_ck_120 (mj_ck_drop 4 128 mh_ck_128 (mj_ck_drop 4 132 mh_ck_132 (mj_ck_drop 4 136 mh_ck_136 (mj_ck_drop 4 140 mh_ck_140 (mj_ck_drop 4 144 mh_ck_144 (mj_ck_drop 4 148 mh_ck_148 (mj_ck_drop 4 152 mh_ck_152 (mj_ck_drop 4 156 mh_ck_156 (mj_ck_drop 4 160 mh_ck_160 (mj_ck_drop 4 164 mh_ck_164 (mj_ck_drop 4 168 mh_ck_168 (mj_ck_drop 4 172 mh_ck_172 (mj_ck_drop 4 176 mh_ck_176 (mj_ck_drop 4 180 mh_ck_180 (mj_ck_drop 4 184 mh_ck_184 (mj_ck_drop 4 188 mh_ck_188 (mj_ck_drop 4 192 mh_ck_192 (mj_ck_drop 4 196 mh_ck_196 (mj_ck_drop 4 200 mh_ck_200 (mj_ck_drop 4 204 mh_ck_204 (mj_ck_drop 4 208 mh_ck_208 (mj_ck_drop 4 212 mh_ck_212 (mj_ck_drop 4 216 mh_ck_216 (mj_ck_drop 4 220 mh_ck_220 (mj_ck_drop 4 224 mh_ck_224 (mj_ck_drop 4 228 mh_ck_228 (mj_ck_drop 4 232 mh_ck_232 (mj_ck_drop 4 236 mh_ck_236 (mj_ck_drop 4 240 mh_ck_240 (mj_ck_drop 4 244 mh_ck_244 (mj_ck_drop 4 248 mh_ck_248 (mj_ck_drop 4 252 mh_ck_252 mh_ck_all))))))))))))))))))))))))))))))))))))))))))))))))
