set_option maxRecDepth 1000000 in
theorem chk_Law_0 : chkR 13 false code T_Law_law 0 64 = true := by decide +kernel
set_option maxRecDepth 1000000 in
theorem chk_Law_64 : chkR 13 false code T_Law_law 64 64 = true := by decide +kernel
set_option maxRecDepth 1000000 in
theorem chk_Law_128 : chkR 13 false code T_Law_law 128 64 = true := by decide +kernel
set_option maxRecDepth 1000000 in
theorem chk_Law_192 : chkR 13 false code T_Law_law 192 64 = true := by decide +kernel
set_option maxRecDepth 1000000 in
theorem chk_Law_256 : chkR 13 false code T_Law_law 256 64 = true := by decide +kernel
set_option maxRecDepth 1000000 in
theorem chk_Law_320 : chkR 13 false code T_Law_law 320 64 = true := by decide +kernel
