-- the law's cases, checked by the kernel: 10 to 19
set_option maxRecDepth 1000000 in
theorem lw_tk_10 : lw_ck (580, 1, 56, 71, 477, 59, 207, 1231, false) = true := by decide +kernel
set_option maxRecDepth 1000000 in
theorem lw_tk_11 : lw_ck (603, 0, 60, 72, 486, 63, 197, 1171, false) = true := by decide +kernel
set_option maxRecDepth 1000000 in
theorem lw_tk_12 : lw_ck (616, 4, 64, 73, 494, 68, 209, 1239, false) = true := by decide +kernel
set_option maxRecDepth 1000000 in
theorem lw_tk_13 : lw_ck (669, 2, 69, 74, 598, 72, 210, 1285, false) = true := by decide +kernel
set_option maxRecDepth 1000000 in
theorem lw_tk_14 : lw_ck (702, 6, 73, 75, 608, 77, 212, 1293, false) = true := by decide +kernel
set_option maxRecDepth 1000000 in
theorem lw_tk_15 : lw_ck (777, 3, 78, 76, 616, 82, 213, 1301, false) = true := by decide +kernel
set_option maxRecDepth 1000000 in
theorem lw_tk_16 : lw_ck (820, 4, 83, 77, 628, 86, 216, 1309, false) = true := by decide +kernel
set_option maxRecDepth 1000000 in
theorem lw_tk_17 : lw_ck (873, 4, 87, 78, 642, 90, 217, 1321, false) = true := by decide +kernel
set_option maxRecDepth 1000000 in
theorem lw_tk_18 : lw_ck (926, 2, 91, 79, 646, 94, 218, 1325, false) = true := by decide +kernel
set_option maxRecDepth 1000000 in
theorem lw_tk_19 : lw_ck (959, 2, 95, 84, 682, 98, 222, 1329, false) = true := by decide +kernel
