-- the law's cases, checked by the kernel: 50 to 57
set_option maxRecDepth 1000000 in
theorem lw_tk_50 : lw_ck (1943, 1, 221, 101, 833, 224, 264, 1522, false) = true := by decide +kernel
set_option maxRecDepth 1000000 in
theorem lw_tk_51 : lw_ck (1966, 1, 225, 110, 915, 228, 265, 1526, false) = true := by decide +kernel
set_option maxRecDepth 1000000 in
theorem lw_tk_52 : lw_ck (1989, 2, 229, 114, 935, 232, 266, 1530, false) = true := by decide +kernel
set_option maxRecDepth 1000000 in
theorem lw_tk_53 : lw_ck (2022, 0, 233, 111, 919, 236, 267, 1534, false) = true := by decide +kernel
set_option maxRecDepth 1000000 in
theorem lw_tk_54 : lw_ck (2035, 3, 237, 115, 939, 240, 269, 1538, false) = true := by decide +kernel
set_option maxRecDepth 1000000 in
theorem lw_tk_55 : lw_ck (2078, 0, 241, 116, 952, 244, 194, 1163, false) = true := by decide +kernel
set_option maxRecDepth 1000000 in
theorem lw_tk_56 : lw_ck (2091, 0, 245, 117, 956, 248, 195, 1167, false) = true := by decide +kernel
set_option maxRecDepth 1000000 in
theorem lw_tk_57 : lw_ck (2104, 1, 249, 118, 960, 252, 270, 1549, false) = true := by decide +kernel
