set_option maxRecDepth 1000000 in
theorem chk_Law_384 : chkR 13 false code T_Law_law 384 64 = true := by decide +kernel
set_option maxRecDepth 1000000 in
theorem chk_Law_448 : chkR 13 false code T_Law_law 448 64 = true := by decide +kernel
set_option maxRecDepth 1000000 in
theorem chk_Law_512 : chkR 13 false code T_Law_law 512 64 = true := by decide +kernel
set_option maxRecDepth 1000000 in
theorem chk_Law_576 : chkR 13 false code T_Law_law 576 64 = true := by decide +kernel
set_option maxRecDepth 1000000 in
theorem chk_Law_640 : chkR 13 false code T_Law_law 640 64 = true := by decide +kernel
set_option maxRecDepth 1000000 in
theorem chk_Law_704 : chkR 13 false code T_Law_law 704 64 = true := by decide +kernel
