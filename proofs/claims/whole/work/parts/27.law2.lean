set_option maxRecDepth 1000000 in
theorem chk_Law_768 : chkR 13 false code T_Law_law 768 64 = true := by decide +kernel
set_option maxRecDepth 1000000 in
theorem chk_Law_832 : chkR 13 false code T_Law_law 832 64 = true := by decide +kernel
set_option maxRecDepth 1000000 in
theorem chk_Law_896 : chkR 13 false code T_Law_law 896 64 = true := by decide +kernel
set_option maxRecDepth 1000000 in
theorem chk_Law_960 : chkR 13 false code T_Law_law 960 64 = true := by decide +kernel
set_option maxRecDepth 1000000 in
theorem chk_Law_1024 : chkR 13 false code T_Law_law 1024 64 = true := by decide +kernel
set_option maxRecDepth 1000000 in
theorem chk_Law_1088 : chkR 13 false code T_Law_law 1088 64 = true := by decide +kernel
