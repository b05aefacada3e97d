-- the law's cases, checked by the kernel: 20 to 29
set_option maxRecDepth 1000000 in
theorem lw_tk_20 : lw_ck (992, 1, 99, 94, 771, 102, 224, 1347, false) = true := by decide +kernel
set_option maxRecDepth 1000000 in
theorem lw_tk_21 : lw_ck (1015, 2, 103, 86, 713, 106, 226, 1359, false) = true := by decide +kernel
set_option maxRecDepth 1000000 in
theorem lw_tk_22 : lw_ck (1048, 3, 107, 87, 723, 110, 227, 1367, false) = true := by decide +kernel
set_option maxRecDepth 1000000 in
theorem lw_tk_23 : lw_ck (1091, 4, 111, 80, 655, 114, 228, 1371, false) = true := by decide +kernel
set_option maxRecDepth 1000000 in
theorem lw_tk_24 : lw_ck (1144, 0, 115, 112, 923, 118, 229, 1375, false) = true := by decide +kernel
set_option maxRecDepth 1000000 in
theorem lw_tk_25 : lw_ck (1157, 0, 119, 113, 931, 122, 230, 1379, false) = true := by decide +kernel
set_option maxRecDepth 1000000 in
theorem lw_tk_26 : lw_ck (1170, 2, 123, 102, 837, 126, 231, 1383, false) = true := by decide +kernel
set_option maxRecDepth 1000000 in
theorem lw_tk_27 : lw_ck (1203, 1, 127, 103, 851, 130, 234, 1387, false) = true := by decide +kernel
set_option maxRecDepth 1000000 in
theorem lw_tk_28 : lw_ck (1226, 1, 131, 104, 872, 134, 236, 1403, false) = true := by decide +kernel
set_option maxRecDepth 1000000 in
theorem lw_tk_29 : lw_ck (1249, 0, 135, 105, 884, 138, 237, 1411, false) = true := by decide +kernel
