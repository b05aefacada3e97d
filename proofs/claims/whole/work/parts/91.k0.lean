-- the law's cases, checked by the kernel: 0 to 9
set_option maxRecDepth 1000000 in
theorem lw_tk_0 : lw_ck (280, 1, 13, 61, 322, 17, 181, 1085, false) = true := by decide +kernel
set_option maxRecDepth 1000000 in
theorem lw_tk_1 : lw_ck (303, 0, 18, 62, 334, 22, 191, 1093, false) = true := by decide +kernel
set_option maxRecDepth 1000000 in
theorem lw_tk_2 : lw_ck (316, 2, 23, 63, 415, 27, 198, 1175, false) = true := by decide +kernel
set_option maxRecDepth 1000000 in
theorem lw_tk_3 : lw_ck (349, 2, 28, 64, 424, 31, 199, 1184, false) = true := by decide +kernel
set_option maxRecDepth 1000000 in
theorem lw_tk_4 : lw_ck (382, 2, 32, 65, 432, 35, 200, 1192, false) = true := by decide +kernel
set_option maxRecDepth 1000000 in
theorem lw_tk_5 : lw_ck (415, 2, 36, 66, 440, 39, 202, 1200, false) = true := by decide +kernel
set_option maxRecDepth 1000000 in
theorem lw_tk_6 : lw_ck (448, 2, 40, 67, 449, 43, 203, 1207, false) = true := by decide +kernel
set_option maxRecDepth 1000000 in
theorem lw_tk_7 : lw_ck (481, 2, 44, 68, 454, 47, 204, 1211, false) = true := by decide +kernel
set_option maxRecDepth 1000000 in
theorem lw_tk_8 : lw_ck (514, 2, 48, 69, 459, 51, 205, 1216, false) = true := by decide +kernel
set_option maxRecDepth 1000000 in
theorem lw_tk_9 : lw_ck (547, 2, 52, 70, 471, 55, 206, 1227, false) = true := by decide +kernel
