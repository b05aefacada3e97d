set_option maxRecDepth 1000000 in
theorem mm_ck_167 : (List.range' 167 10).all mm_chm = true := by decide +kernel
set_option maxRecDepth 1000000 in
theorem mm_ck_177 : (List.range' 177 5).all mm_chm = true := by decide +kernel
set_option maxRecDepth 1000000 in
theorem mm_ck_182 : (List.range' 182 4).all mm_chm = true := by decide +kernel
set_option maxRecDepth 1000000 in
theorem mm_ck_186 : (List.range' 186 4).all mm_chm = true := by decide +kernel
set_option maxRecDepth 1000000 in
theorem mm_ck_190 : (List.range' 190 2).all mm_chm = true := by decide +kernel
set_option maxRecDepth 1000000 in
theorem mm_ck_192 : (List.range' 192 3).all mm_chm = true := by decide +kernel
set_option maxRecDepth 1000000 in
theorem mm_ck_195 : (List.range' 195 4).all mm_chm = true := by decide +kernel
set_option maxRecDepth 1000000 in
theorem mm_ck_199 : (List.range' 199 4).all mm_chm = true := by decide +kernel
set_option maxRecDepth 1000000 in
theorem mm_ck_203 : (List.range' 203 4).all mm_chm = true := by decide +kernel
set_option maxRecDepth 1000000 in
theorem mm_ck_207 : (List.range' 207 5).all mm_chm = true := by decide +kernel
set_option maxRecDepth 1000000 in
theorem mm_ck_212 : (List.range' 212 3).all mm_chm = true := by decide +kernel
set_option maxRecDepth 1000000 in
theorem mm_ck_215 : (List.range' 215 4).all mm_chm = true := by decide +kernel
set_option maxRecDepth 1000000 in
theorem mm_ck_219 : (List.range' 219 4).all mm_chm = true := by decide +kernel
set_option maxRecDepth 1000000 in
theorem mm_ck_223 : (List.range' 223 2).all mm_chm = true := by decide +kernel
set_option maxRecDepth 1000000 in
theorem mm_ck_225 : (List.range' 225 3).all mm_chm = true := by decide +kernel
set_option maxRecDepth 1000000 in
theorem mm_ck_228 : (List.range' 228 3).all mm_chm = true := by decide +kernel
set_option maxRecDepth 1000000 in
theorem mm_ck_231 : (List.range' 231 3).all mm_chm = true := by decide +kernel
set_option maxRecDepth 1000000 in
theorem mm_ck_234 : (List.range' 234 3).all mm_chm = true := by decide +kernel
set_option maxRecDepth 1000000 in
theorem mm_ck_237 : (List.range' 237 6).all mm_chm = true := by decide +kernel
set_option maxRecDepth 1000000 in
theorem mm_ck_243 : (List.range' 243 3).all mm_chm = true := by decide +kernel
set_option maxRecDepth 1000000 in
theorem mm_ck_246 : (List.range' 246 3).all mm_chm = true := by decide +kernel
set_option maxRecDepth 1000000 in
theorem mm_ck_249 : (List.range' 249 3).all mm_chm = true := by decide +kernel
set_option maxRecDepth 1000000 in
theorem mm_ck_252 : (List.range' 252 2).all mm_chm = true := by decide +kernel
set_option maxRecDepth 1000000 in
theorem mm_ck_254 : (List.range' 254 4).all mm_chm = true := by decide +kernel
set_option maxRecDepth 1000000 in
theorem mm_ck_258 : (List.range' 258 4).all mm_chm = true := by decide +kernel
set_option maxRecDepth 1000000 in
theorem mm_ck_262 : (List.range' 262 2).all mm_chm = true := by decide +kernel
set_option maxRecDepth 1000000 in
theorem mm_ck_264 : (List.range' 264 4).all mm_chm = true := by decide +kernel
set_option maxRecDepth 1000000 in
theorem mm_ck_268 : (List.range' 268 4).all mm_chm = true := by decide +kernel
theorem mm_ckA (mid : Nat) (h : mid < mm_NM) : mm_chm mid = true := by
  by_cases h0 : mid < 6
  · exact List.all_eq_true.mp mm_ck_0 mid (List.mem_range'_1.mpr ⟨by omega, by omega⟩)
  by_cases h6 : mid < 10
  · exact List.all_eq_true.mp mm_ck_6 mid (List.mem_range'_1.mpr ⟨by omega, by omega⟩)
  by_cases h10 : mid < 16
  · exact List.all_eq_true.mp mm_ck_10 mid (List.mem_range'_1.mpr ⟨by omega, by omega⟩)
  by_cases h16 : mid < 23
  · exact List.all_eq_true.mp mm_ck_16 mid (List.mem_range'_1.mpr ⟨by omega, by omega⟩)
  by_cases h23 : mid < 28
  · exact List.all_eq_true.mp mm_ck_23 mid (List.mem_range'_1.mpr ⟨by omega, by omega⟩)
  by_cases h28 : mid < 32
  · exact List.all_eq_true.mp mm_ck_28 mid (List.mem_range'_1.mpr ⟨by omega, by omega⟩)
  by_cases h32 : mid < 40
  · exact List.all_eq_true.mp mm_ck_32 mid (List.mem_range'_1.mpr ⟨by omega, by omega⟩)
  by_cases h40 : mid < 50
  · exact List.all_eq_true.mp mm_ck_40 mid (List.mem_range'_1.mpr ⟨by omega, by omega⟩)
  by_cases h50 : mid < 55
  · exact List.all_eq_true.mp mm_ck_50 mid (List.mem_range'_1.mpr ⟨by omega, by omega⟩)
  by_cases h55 : mid < 66
  · exact List.all_eq_true.mp mm_ck_55 mid (List.mem_range'_1.mpr ⟨by omega, by omega⟩)
  by_cases h66 : mid < 73
  · exact List.all_eq_true.mp mm_ck_66 mid (List.mem_range'_1.mpr ⟨by omega, by omega⟩)
  by_cases h73 : mid < 77
  · exact List.all_eq_true.mp mm_ck_73 mid (List.mem_range'_1.mpr ⟨by omega, by omega⟩)
  by_cases h77 : mid < 81
  · exact List.all_eq_true.mp mm_ck_77 mid (List.mem_range'_1.mpr ⟨by omega, by omega⟩)
  by_cases h81 : mid < 85
  · exact List.all_eq_true.mp mm_ck_81 mid (List.mem_range'_1.mpr ⟨by omega, by omega⟩)
  by_cases h85 : mid < 88
  · exact List.all_eq_true.mp mm_ck_85 mid (List.mem_range'_1.mpr ⟨by omega, by omega⟩)
  by_cases h88 : mid < 92
  · exact List.all_eq_true.mp mm_ck_88 mid (List.mem_range'_1.mpr ⟨by omega, by omega⟩)
  by_cases h92 : mid < 96
  · exact List.all_eq_true.mp mm_ck_92 mid (List.mem_range'_1.mpr ⟨by omega, by omega⟩)
  by_cases h96 : mid < 99
  · exact List.all_eq_true.mp mm_ck_96 mid (List.mem_range'_1.mpr ⟨by omega, by omega⟩)
  by_cases h99 : mid < 103
  · exact List.all_eq_true.mp mm_ck_99 mid (List.mem_range'_1.mpr ⟨by omega, by omega⟩)
  by_cases h103 : mid < 110
  · exact List.all_eq_true.mp mm_ck_103 mid (List.mem_range'_1.mpr ⟨by omega, by omega⟩)
  by_cases h110 : mid < 115
  · exact List.all_eq_true.mp mm_ck_110 mid (List.mem_range'_1.mpr ⟨by omega, by omega⟩)
  by_cases h115 : mid < 119
  · exact List.all_eq_true.mp mm_ck_115 mid (List.mem_range'_1.mpr ⟨by omega, by omega⟩)
  by_cases h119 : mid < 131
  · exact List.all_eq_true.mp mm_ck_119 mid (List.mem_range'_1.mpr ⟨by omega, by omega⟩)
  by_cases h131 : mid < 136
  · exact List.all_eq_true.mp mm_ck_131 mid (List.mem_range'_1.mpr ⟨by omega, by omega⟩)
  by_cases h136 : mid < 146
  · exact List.all_eq_true.mp mm_ck_136 mid (List.mem_range'_1.mpr ⟨by omega, by omega⟩)
  by_cases h146 : mid < 160
  · exact List.all_eq_true.mp mm_ck_146 mid (List.mem_range'_1.mpr ⟨by omega, by omega⟩)
  by_cases h160 : mid < 167
  · exact List.all_eq_true.mp mm_ck_160 mid (List.mem_range'_1.mpr ⟨by omega, by omega⟩)
  by_cases h167 : mid < 177
  · exact List.all_eq_true.mp mm_ck_167 mid (List.mem_range'_1.mpr ⟨by omega, by omega⟩)
  by_cases h177 : mid < 182
  · exact List.all_eq_true.mp mm_ck_177 mid (List.mem_range'_1.mpr ⟨by omega, by omega⟩)
  by_cases h182 : mid < 186
  · exact List.all_eq_true.mp mm_ck_182 mid (List.mem_range'_1.mpr ⟨by omega, by omega⟩)
  by_cases h186 : mid < 190
  · exact List.all_eq_true.mp mm_ck_186 mid (List.mem_range'_1.mpr ⟨by omega, by omega⟩)
  by_cases h190 : mid < 192
  · exact List.all_eq_true.mp mm_ck_190 mid (List.mem_range'_1.mpr ⟨by omega, by omega⟩)
  by_cases h192 : mid < 195
  · exact List.all_eq_true.mp mm_ck_192 mid (List.mem_range'_1.mpr ⟨by omega, by omega⟩)
  by_cases h195 : mid < 199
  · exact List.all_eq_true.mp mm_ck_195 mid (List.mem_range'_1.mpr ⟨by omega, by omega⟩)
  by_cases h199 : mid < 203
  · exact List.all_eq_true.mp mm_ck_199 mid (List.mem_range'_1.mpr ⟨by omega, by omega⟩)
  by_cases h203 : mid < 207
  · exact List.all_eq_true.mp mm_ck_203 mid (List.mem_range'_1.mpr ⟨by omega, by omega⟩)
  by_cases h207 : mid < 212
  · exact List.all_eq_true.mp mm_ck_207 mid (List.mem_range'_1.mpr ⟨by omega, by omega⟩)
  by_cases h212 : mid < 215
  · exact List.all_eq_true.mp mm_ck_212 mid (List.mem_range'_1.mpr ⟨by omega, by omega⟩)
  by_cases h215 : mid < 219
  · exact List.all_eq_true.mp mm_ck_215 mid (List.mem_range'_1.mpr ⟨by omega, by omega⟩)
  by_cases h219 : mid < 223
  · exact List.all_eq_true.mp mm_ck_219 mid (List.mem_range'_1.mpr ⟨by omega, by omega⟩)
  by_cases h223 : mid < 225
  · exact List.all_eq_true.mp mm_ck_223 mid (List.mem_range'_1.mpr ⟨by omega, by omega⟩)
  by_cases h225 : mid < 228
  · exact List.all_eq_true.mp mm_ck_225 mid (List.mem_range'_1.mpr ⟨by omega, by omega⟩)
  by_cases h228 : mid < 231
  · exact List.all_eq_true.mp mm_ck_228 mid (List.mem_range'_1.mpr ⟨by omega, by omega⟩)
  by_cases h231 : mid < 234
  · exact List.all_eq_true.mp mm_ck_231 mid (List.mem_range'_1.mpr ⟨by omega, by omega⟩)
  by_cases h234 : mid < 237
  · exact List.all_eq_true.mp mm_ck_234 mid (List.mem_range'_1.mpr ⟨by omega, by omega⟩)
  by_cases h237 : mid < 243
  · exact List.all_eq_true.mp mm_ck_237 mid (List.mem_range'_1.mpr ⟨by omega, by omega⟩)
  by_cases h243 : mid < 246
  · exact List.all_eq_true.mp mm_ck_243 mid (List.mem_range'_1.mpr ⟨by omega, by omega⟩)
  by_cases h246 : mid < 249
  · exact List.all_eq_true.mp mm_ck_246 mid (List.mem_range'_1.mpr ⟨by omega, by omega⟩)
  by_cases h249 : mid < 252
  · exact List.all_eq_true.mp mm_ck_249 mid (List.mem_range'_1.mpr ⟨by omega, by omega⟩)
  by_cases h252 : mid < 254
  · exact List.all_eq_true.mp mm_ck_252 mid (List.mem_range'_1.mpr ⟨by omega, by omega⟩)
  by_cases h254 : mid < 258
  · exact List.all_eq_true.mp mm_ck_254 mid (List.mem_range'_1.mpr ⟨by omega, by omega⟩)
  by_cases h258 : mid < 262
  · exact List.all_eq_true.mp mm_ck_258 mid (List.mem_range'_1.mpr ⟨by omega, by omega⟩)
  by_cases h262 : mid < 264
  · exact List.all_eq_true.mp mm_ck_262 mid (List.mem_range'_1.mpr ⟨by omega, by omega⟩)
  by_cases h264 : mid < 268
  · exact List.all_eq_true.mp mm_ck_264 mid (List.mem_range'_1.mpr ⟨by omega, by omega⟩)
  by_cases h268 : mid < 272
  · exact List.all_eq_true.mp mm_ck_268 mid (List.mem_range'_1.mpr ⟨by omega, by omega⟩)
  exact absurd h (by unfold mm_NM; omega)
