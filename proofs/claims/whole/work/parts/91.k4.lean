-- the law's cases, checked by the kernel: 40 to 49
set_option maxRecDepth 1000000 in
theorem lw_tk_40 : lw_ck (1623, 2, 181, 92, 763, 184, 250, 1467, false) = true := by decide +kernel
set_option maxRecDepth 1000000 in
theorem lw_tk_41 : lw_ck (1656, 3, 185, 98, 811, 188, 251, 1471, false) = true := by decide +kernel
set_option maxRecDepth 1000000 in
theorem lw_tk_42 : lw_ck (1699, 2, 189, 99, 815, 192, 252, 1475, false) = true := by decide +kernel
set_option maxRecDepth 1000000 in
theorem lw_tk_43 : lw_ck (1732, 0, 193, 108, 900, 196, 253, 1479, false) = true := by decide +kernel
set_option maxRecDepth 1000000 in
theorem lw_tk_44 : lw_ck (1745, 2, 197, 109, 911, 200, 254, 1483, false) = true := by decide +kernel
set_option maxRecDepth 1000000 in
theorem lw_tk_45 : lw_ck (1778, 0, 201, 95, 790, 204, 256, 1487, false) = true := by decide +kernel
set_option maxRecDepth 1000000 in
theorem lw_tk_46 : lw_ck (1791, 4, 205, 83, 676, 208, 257, 1495, false) = true := by decide +kernel
set_option maxRecDepth 1000000 in
theorem lw_tk_47 : lw_ck (1844, 1, 209, 100, 825, 212, 260, 1499, false) = true := by decide +kernel
set_option maxRecDepth 1000000 in
theorem lw_tk_48 : lw_ck (1867, 4, 213, 88, 727, 216, 262, 1510, false) = true := by decide +kernel
set_option maxRecDepth 1000000 in
theorem lw_tk_49 : lw_ck (1920, 1, 217, 93, 767, 220, 263, 1518, false) = true := by decide +kernel
