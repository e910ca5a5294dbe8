theorem chk_Law (pc : Nat) (w : RW) (hw : rowAt T_Law_law pc = some w) : decode code pc = .ok (w.1, w.2.1) ∧ aokR 13 false pc w = true := by
  have hlt : pc < 1536 := by
    refine Nat.lt_of_not_le (fun q => ?_)
    unfold rowAt at hw
    rw [List.getElem?_eq_none (l := T_Law_law) (i := pc / 32) (by show 48 ≤ pc / 32; omega)] at hw
    simp at hw
  rcases Nat.lt_or_ge pc 64 with q0 | q0
  · exact chkR_ok chk_Law_0 pc w (by omega) (by omega) hw
  rcases Nat.lt_or_ge pc 128 with q64 | q64
  · exact chkR_ok chk_Law_64 pc w (by omega) (by omega) hw
  rcases Nat.lt_or_ge pc 192 with q128 | q128
  · exact chkR_ok chk_Law_128 pc w (by omega) (by omega) hw
  rcases Nat.lt_or_ge pc 256 with q192 | q192
  · exact chkR_ok chk_Law_192 pc w (by omega) (by omega) hw
  rcases Nat.lt_or_ge pc 320 with q256 | q256
  · exact chkR_ok chk_Law_256 pc w (by omega) (by omega) hw
  rcases Nat.lt_or_ge pc 384 with q320 | q320
  · exact chkR_ok chk_Law_320 pc w (by omega) (by omega) hw
  rcases Nat.lt_or_ge pc 448 with q384 | q384
  · exact chkR_ok chk_Law_384 pc w (by omega) (by omega) hw
  rcases Nat.lt_or_ge pc 512 with q448 | q448
  · exact chkR_ok chk_Law_448 pc w (by omega) (by omega) hw
  rcases Nat.lt_or_ge pc 576 with q512 | q512
  · exact chkR_ok chk_Law_512 pc w (by omega) (by omega) hw
  rcases Nat.lt_or_ge pc 640 with q576 | q576
  · exact chkR_ok chk_Law_576 pc w (by omega) (by omega) hw
  rcases Nat.lt_or_ge pc 704 with q640 | q640
  · exact chkR_ok chk_Law_640 pc w (by omega) (by omega) hw
  rcases Nat.lt_or_ge pc 768 with q704 | q704
  · exact chkR_ok chk_Law_704 pc w (by omega) (by omega) hw
  rcases Nat.lt_or_ge pc 832 with q768 | q768
  · exact chkR_ok chk_Law_768 pc w (by omega) (by omega) hw
  rcases Nat.lt_or_ge pc 896 with q832 | q832
  · exact chkR_ok chk_Law_832 pc w (by omega) (by omega) hw
  rcases Nat.lt_or_ge pc 960 with q896 | q896
  · exact chkR_ok chk_Law_896 pc w (by omega) (by omega) hw
  rcases Nat.lt_or_ge pc 1024 with q960 | q960
  · exact chkR_ok chk_Law_960 pc w (by omega) (by omega) hw
  rcases Nat.lt_or_ge pc 1088 with q1024 | q1024
  · exact chkR_ok chk_Law_1024 pc w (by omega) (by omega) hw
  rcases Nat.lt_or_ge pc 1152 with q1088 | q1088
  · exact chkR_ok chk_Law_1088 pc w (by omega) (by omega) hw
  rcases Nat.lt_or_ge pc 1216 with q1152 | q1152
  · exact chkR_ok chk_Law_1152 pc w (by omega) (by omega) hw
  rcases Nat.lt_or_ge pc 1280 with q1216 | q1216
  · exact chkR_ok chk_Law_1216 pc w (by omega) (by omega) hw
  rcases Nat.lt_or_ge pc 1344 with q1280 | q1280
  · exact chkR_ok chk_Law_1280 pc w (by omega) (by omega) hw
  rcases Nat.lt_or_ge pc 1408 with q1344 | q1344
  · exact chkR_ok chk_Law_1344 pc w (by omega) (by omega) hw
  rcases Nat.lt_or_ge pc 1472 with q1408 | q1408
  · exact chkR_ok chk_Law_1408 pc w (by omega) (by omega) hw
  rcases Nat.lt_or_ge pc 1536 with q1472 | q1472
  · exact chkR_ok chk_Law_1472 pc w (by omega) (by omega) hw
  omega
