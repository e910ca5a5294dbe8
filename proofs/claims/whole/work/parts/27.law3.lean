set_option maxRecDepth 1000000 in
theorem chk_Law_1152 : chkR 13 false code T_Law_law 1152 64 = true := by decide +kernel
set_option maxRecDepth 1000000 in
theorem chk_Law_1216 : chkR 13 false code T_Law_law 1216 64 = true := by decide +kernel
set_option maxRecDepth 1000000 in
theorem chk_Law_1280 : chkR 13 false code T_Law_law 1280 64 = true := by decide +kernel
set_option maxRecDepth 1000000 in
theorem chk_Law_1344 : chkR 13 false code T_Law_law 1344 64 = true := by decide +kernel
set_option maxRecDepth 1000000 in
theorem chk_Law_1408 : chkR 13 false code T_Law_law 1408 64 = true := by decide +kernel
set_option maxRecDepth 1000000 in
theorem chk_Law_1472 : chkR 13 false code T_Law_law 1472 64 = true := by decide +kernel
