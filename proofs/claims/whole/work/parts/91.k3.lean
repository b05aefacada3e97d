-- the law's cases, checked by the kernel: 30 to 39
set_option maxRecDepth 1000000 in
theorem lw_tk_30 : lw_ck (1262, 0, 139, 106, 888, 142, 238, 1415, false) = true := by decide +kernel
set_option maxRecDepth 1000000 in
theorem lw_tk_31 : lw_ck (1275, 1, 143, 107, 892, 146, 239, 1419, false) = true := by decide +kernel
set_option maxRecDepth 1000000 in
theorem lw_tk_32 : lw_ck (1298, 4, 147, 89, 739, 151, 242, 1427, true) = true := by decide +kernel
set_option maxRecDepth 1000000 in
theorem lw_tk_33 : lw_ck (1352, 3, 152, 90, 755, 155, 243, 1439, false) = true := by decide +kernel
set_option maxRecDepth 1000000 in
theorem lw_tk_34 : lw_ck (1395, 5, 156, 81, 660, 160, 244, 1443, false) = true := by decide +kernel
set_option maxRecDepth 1000000 in
theorem lw_tk_35 : lw_ck (1458, 1, 161, 96, 794, 164, 245, 1447, false) = true := by decide +kernel
set_option maxRecDepth 1000000 in
theorem lw_tk_36 : lw_ck (1481, 1, 165, 85, 709, 168, 246, 1451, false) = true := by decide +kernel
set_option maxRecDepth 1000000 in
theorem lw_tk_37 : lw_ck (1504, 4, 169, 91, 759, 172, 247, 1455, false) = true := by decide +kernel
set_option maxRecDepth 1000000 in
theorem lw_tk_38 : lw_ck (1557, 1, 173, 97, 798, 176, 248, 1459, false) = true := by decide +kernel
set_option maxRecDepth 1000000 in
theorem lw_tk_39 : lw_ck (1580, 3, 177, 82, 672, 180, 249, 1463, false) = true := by decide +kernel
