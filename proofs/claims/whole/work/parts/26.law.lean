/-- a stretch of a table, held against the code -/
def chkR (own : Nat) (md : Bool) (cc : ByteArray) (tab : List (List (Option RW))) (a n : Nat) : Bool := (List.range n).all (fun i => match rowAt tab (a + i) with
  | some w => decide (decode cc (a + i) = .ok (w.1, w.2.1)) && aokR own md (a + i) w
  | none => true)
theorem chkR_ok {own : Nat} {md : Bool} {cc : ByteArray} {tab : List (List (Option RW))} {a n : Nat} (h : chkR own md cc tab a n = true) (pc : Nat) (w : RW) (h1 : a ≤ pc) (h2 : pc < a + n) (hw : rowAt tab pc = some w) : decode cc pc = .ok (w.1, w.2.1) ∧ aokR own md pc w = true := by
  have := List.all_eq_true.mp h (pc - a) (List.mem_range.mpr (by omega))
  rw [show a + (pc - a) = pc by omega, hw] at this
  simp only [Bool.and_eq_true, decide_eq_true_eq] at this
  exact this
def T_Law_law : List (List (Option RW)) := [
  [some (.new 7, 3, [11], 0, 0), none, none, some (.dup, 1, [], 0, 0), some (.invokespecial 9, 3, [4, 108, 1, 3], 0, 0), none, none, some (.astore_n 1, 1, [1], 0, 0), some (.new 10, 3, [12], 0, 0), none, none, some (.dup, 1, [], 0, 0), some (.invokespecial 12, 3, [4, 163, 1, 3], 0, 0), none, none, some (.astore_n 2, 1, [2], 0, 0), some (.iconst 0, 1, [], 0, 0), some (.istore_n 3, 1, [3], 0, 0), some (.iload_n 3, 1, [3], 0, 0), some (.aload_n 0, 1, [0], 0, 0), some (.arraylength, 1, [], 0, 0), some (.bipush 6, 2, [], 6, 0), none, some (.isub, 1, [], 0, 0), some (.if_icmp .gt 1498, 3, [1522], 0, 0), none, none, some (.aload_n 0, 1, [0], 0, 0), some (.iload_n 3, 1, [3], 0, 0), some (.iaload, 1, [], 0, 0), some (.bipush 63, 2, [], 63, 0), none],
  [some (.iand, 1, [], 0, 0), some (.tableswitch 1483 0 34 #[155, 168, 182, 196, 239, 312, 346, 409, 472, 495, 518, 541, 574, 637, 680, 703, 746, 799, 822, 875, 898, 931, 984, 1027, 1060, 1103, 1146, 1179, 1212, 1265, 1308, 1351, 1384, 1407, 1460], 155, [1516, 188, 201, 215, 229, 272, 345, 379, 442, 505, 528, 551, 574, 607, 670, 713, 736, 779, 832, 855, 908, 931, 964, 1017, 1060, 1093, 1136, 1179, 1212, 1245, 1298, 1341, 1384, 1417, 1440, 1493], 0, 0), none, none, none, none, none, none, none, none, none, none, none, none, none, none, none, none, none, none, none, none, none, none, none, none, none, none, none, none, none, none],
  [none, none, none, none, none, none, none, none, none, none, none, none, none, none, none, none, none, none, none, none, none, none, none, none, none, none, none, none, none, none, none, none],
  [none, none, none, none, none, none, none, none, none, none, none, none, none, none, none, none, none, none, none, none, none, none, none, none, none, none, none, none, none, none, none, none],
  [none, none, none, none, none, none, none, none, none, none, none, none, none, none, none, none, none, none, none, none, none, none, none, none, none, none, none, none, none, none, none, none],
  [none, none, none, none, none, none, none, none, none, none, none, none, none, none, none, none, none, none, none, none, none, none, none, none, none, none, none, none, some (.aload_n 1, 1, [1], 0, 0), some (.invokevirtual 13, 3, [0, 109, 1, 0], 0, 0), none, none],
  [some (.aload_n 2, 1, [2], 0, 0), some (.invokevirtual 17, 3, [0, 164, 1, 0], 0, 0), none, none, some (.if_icmp .eq 1320, 3, [1516], 0, 0), none, none, some (.iconst 0, 1, [], 0, 0), some (.ireturn, 1, [], 0, 0), some (.aload_n 1, 1, [1], 0, 0), some (.invokevirtual 18, 3, [0, 110, 1, 1], 0, 0), none, none, some (.aload_n 2, 1, [2], 0, 0), some (.invokevirtual 22, 3, [0, 165, 1, 1], 0, 0), none, none, some (.lcmp, 1, [], 0, 0), some (.ifCond .eq 1306, 3, [1516], 0, 0), none, none, some (.iconst 0, 1, [], 0, 0), some (.ireturn, 1, [], 0, 0), some (.aload_n 1, 1, [1], 0, 0), some (.invokevirtual 23, 3, [0, 111, 1, 1], 0, 0), none, none, some (.aload_n 2, 1, [2], 0, 0), some (.invokevirtual 26, 3, [0, 166, 1, 1], 0, 0), none, none, some (.lcmp, 1, [], 0, 0)],
  [some (.ifCond .eq 1292, 3, [1516], 0, 0), none, none, some (.iconst 0, 1, [], 0, 0), some (.ireturn, 1, [], 0, 0), some (.aload_n 1, 1, [1], 0, 0), some (.aload_n 0, 1, [0], 0, 0), some (.iload_n 3, 1, [3], 0, 0), some (.iconst 1, 1, [], 1, 0), some (.iadd, 1, [], 0, 0), some (.iaload, 1, [], 0, 0), some (.aload_n 0, 1, [0], 0, 0), some (.iload_n 3, 1, [3], 0, 0), some (.iconst 2, 1, [], 2, 0), some (.iadd, 1, [], 0, 0), some (.iaload, 1, [], 0, 0), some (.aload_n 0, 1, [0], 0, 0), some (.iload_n 3, 1, [3], 0, 0), some (.iconst 3, 1, [], 3, 0), some (.iadd, 1, [], 0, 0), some (.iaload, 1, [], 0, 0), some (.invokevirtual 27, 3, [0, 112, 4, 0], 0, 0), none, none, some (.aload_n 2, 1, [2], 0, 0), some (.aload_n 0, 1, [0], 0, 0), some (.iload_n 3, 1, [3], 0, 0), some (.iconst 1, 1, [], 1, 0), some (.iadd, 1, [], 0, 0), some (.iaload, 1, [], 0, 0), some (.aload_n 0, 1, [0], 0, 0), some (.iload_n 3, 1, [3], 0, 0)],
  [some (.iconst 2, 1, [], 2, 0), some (.iadd, 1, [], 0, 0), some (.iaload, 1, [], 0, 0), some (.aload_n 0, 1, [0], 0, 0), some (.iload_n 3, 1, [3], 0, 0), some (.iconst 3, 1, [], 3, 0), some (.iadd, 1, [], 0, 0), some (.iaload, 1, [], 0, 0), some (.invokevirtual 31, 3, [0, 173, 4, 0], 0, 0), none, none, some (.if_icmp .eq 1249, 3, [1516], 0, 0), none, none, some (.iconst 0, 1, [], 0, 0), some (.ireturn, 1, [], 0, 0), some (.aload_n 1, 1, [1], 0, 0), some (.aload_n 0, 1, [0], 0, 0), some (.iload_n 3, 1, [3], 0, 0), some (.iconst 1, 1, [], 1, 0), some (.iadd, 1, [], 0, 0), some (.iaload, 1, [], 0, 0), some (.aload_n 0, 1, [0], 0, 0), some (.iload_n 3, 1, [3], 0, 0), some (.iconst 2, 1, [], 2, 0), some (.iadd, 1, [], 0, 0), some (.iaload, 1, [], 0, 0), some (.aload_n 0, 1, [0], 0, 0), some (.iload_n 3, 1, [3], 0, 0), some (.iconst 3, 1, [], 3, 0), some (.iadd, 1, [], 0, 0), some (.iaload, 1, [], 0, 0)],
  [some (.i2l, 1, [], 0, 0), some (.bipush 32, 2, [], 32, 0), none, some (.lshl, 1, [], 0, 0), some (.aload_n 0, 1, [0], 0, 0), some (.iload_n 3, 1, [3], 0, 0), some (.iconst 4, 1, [], 4, 0), some (.iadd, 1, [], 0, 0), some (.iaload, 1, [], 0, 0), some (.i2l, 1, [], 0, 0), some (.ldc2_w 32, 3, [], 0, 4294967295), none, none, some (.land, 1, [], 0, 0), some (.lor, 1, [], 0, 0), some (.invokevirtual 34, 3, [0, 113, 4, 0], 0, 0), none, none, some (.aload_n 2, 1, [2], 0, 0), some (.aload_n 0, 1, [0], 0, 0), some (.iload_n 3, 1, [3], 0, 0), some (.iconst 1, 1, [], 1, 0), some (.iadd, 1, [], 0, 0), some (.iaload, 1, [], 0, 0), some (.aload_n 0, 1, [0], 0, 0), some (.iload_n 3, 1, [3], 0, 0), some (.iconst 2, 1, [], 2, 0), some (.iadd, 1, [], 0, 0), some (.iaload, 1, [], 0, 0), some (.aload_n 0, 1, [0], 0, 0), some (.iload_n 3, 1, [3], 0, 0), some (.iconst 3, 1, [], 3, 0)],
  [some (.iadd, 1, [], 0, 0), some (.iaload, 1, [], 0, 0), some (.i2l, 1, [], 0, 0), some (.bipush 32, 2, [], 32, 0), none, some (.lshl, 1, [], 0, 0), some (.aload_n 0, 1, [0], 0, 0), some (.iload_n 3, 1, [3], 0, 0), some (.iconst 4, 1, [], 4, 0), some (.iadd, 1, [], 0, 0), some (.iaload, 1, [], 0, 0), some (.i2l, 1, [], 0, 0), some (.ldc2_w 32, 3, [], 0, 4294967295), none, none, some (.land, 1, [], 0, 0), some (.lor, 1, [], 0, 0), some (.invokevirtual 38, 3, [0, 175, 4, 0], 0, 0), none, none, some (.if_icmp .eq 1176, 3, [1516], 0, 0), none, none, some (.iconst 0, 1, [], 0, 0), some (.ireturn, 1, [], 0, 0), some (.aload_n 1, 1, [1], 0, 0), some (.aload_n 0, 1, [0], 0, 0), some (.iload_n 3, 1, [3], 0, 0), some (.iconst 1, 1, [], 1, 0), some (.iadd, 1, [], 0, 0), some (.iaload, 1, [], 0, 0), some (.aload_n 0, 1, [0], 0, 0)],
  [some (.iload_n 3, 1, [3], 0, 0), some (.iconst 2, 1, [], 2, 0), some (.iadd, 1, [], 0, 0), some (.iaload, 1, [], 0, 0), some (.invokevirtual 39, 3, [0, 114, 3, 1], 0, 0), none, none, some (.aload_n 2, 1, [2], 0, 0), some (.aload_n 0, 1, [0], 0, 0), some (.iload_n 3, 1, [3], 0, 0), some (.iconst 1, 1, [], 1, 0), some (.iadd, 1, [], 0, 0), some (.iaload, 1, [], 0, 0), some (.aload_n 0, 1, [0], 0, 0), some (.iload_n 3, 1, [3], 0, 0), some (.iconst 2, 1, [], 2, 0), some (.iadd, 1, [], 0, 0), some (.iaload, 1, [], 0, 0), some (.invokevirtual 43, 3, [0, 176, 3, 1], 0, 0), none, none, some (.lcmp, 1, [], 0, 0), some (.ifCond .eq 1142, 3, [1516], 0, 0), none, none, some (.iconst 0, 1, [], 0, 0), some (.ireturn, 1, [], 0, 0), some (.aload_n 1, 1, [1], 0, 0), some (.aload_n 0, 1, [0], 0, 0), some (.iload_n 3, 1, [3], 0, 0), some (.iconst 1, 1, [], 1, 0), some (.iadd, 1, [], 0, 0)],
  [some (.iaload, 1, [], 0, 0), some (.aload_n 0, 1, [0], 0, 0), some (.iload_n 3, 1, [3], 0, 0), some (.iconst 2, 1, [], 2, 0), some (.iadd, 1, [], 0, 0), some (.iaload, 1, [], 0, 0), some (.aload_n 0, 1, [0], 0, 0), some (.iload_n 3, 1, [3], 0, 0), some (.iconst 3, 1, [], 3, 0), some (.iadd, 1, [], 0, 0), some (.iaload, 1, [], 0, 0), some (.aload_n 0, 1, [0], 0, 0), some (.iload_n 3, 1, [3], 0, 0), some (.iconst 4, 1, [], 4, 0), some (.iadd, 1, [], 0, 0), some (.iaload, 1, [], 0, 0), some (.aload_n 0, 1, [0], 0, 0), some (.iload_n 3, 1, [3], 0, 0), some (.iconst 5, 1, [], 5, 0), some (.iadd, 1, [], 0, 0), some (.iaload, 1, [], 0, 0), some (.invokevirtual 44, 3, [0, 115, 6, 0], 0, 0), none, none, some (.aload_n 2, 1, [2], 0, 0), some (.aload_n 0, 1, [0], 0, 0), some (.iload_n 3, 1, [3], 0, 0), some (.iconst 1, 1, [], 1, 0), some (.iadd, 1, [], 0, 0), some (.iaload, 1, [], 0, 0), some (.aload_n 0, 1, [0], 0, 0), some (.iload_n 3, 1, [3], 0, 0)],
  [some (.iconst 2, 1, [], 2, 0), some (.iadd, 1, [], 0, 0), some (.iaload, 1, [], 0, 0), some (.aload_n 0, 1, [0], 0, 0), some (.iload_n 3, 1, [3], 0, 0), some (.iconst 3, 1, [], 3, 0), some (.iadd, 1, [], 0, 0), some (.iaload, 1, [], 0, 0), some (.aload_n 0, 1, [0], 0, 0), some (.iload_n 3, 1, [3], 0, 0), some (.iconst 4, 1, [], 4, 0), some (.iadd, 1, [], 0, 0), some (.iaload, 1, [], 0, 0), some (.aload_n 0, 1, [0], 0, 0), some (.iload_n 3, 1, [3], 0, 0), some (.iconst 5, 1, [], 5, 0), some (.iadd, 1, [], 0, 0), some (.iaload, 1, [], 0, 0), some (.invokevirtual 48, 3, [0, 177, 6, 0], 0, 0), none, none, some (.if_icmp .eq 1079, 3, [1516], 0, 0), none, none, some (.iconst 0, 1, [], 0, 0), some (.ireturn, 1, [], 0, 0), some (.aload_n 1, 1, [1], 0, 0), some (.aload_n 0, 1, [0], 0, 0), some (.iload_n 3, 1, [3], 0, 0), some (.iconst 1, 1, [], 1, 0), some (.iadd, 1, [], 0, 0), some (.iaload, 1, [], 0, 0)],
  [some (.aload_n 0, 1, [0], 0, 0), some (.iload_n 3, 1, [3], 0, 0), some (.iconst 2, 1, [], 2, 0), some (.iadd, 1, [], 0, 0), some (.iaload, 1, [], 0, 0), some (.aload_n 0, 1, [0], 0, 0), some (.iload_n 3, 1, [3], 0, 0), some (.iconst 3, 1, [], 3, 0), some (.iadd, 1, [], 0, 0), some (.iaload, 1, [], 0, 0), some (.aload_n 0, 1, [0], 0, 0), some (.iload_n 3, 1, [3], 0, 0), some (.iconst 4, 1, [], 4, 0), some (.iadd, 1, [], 0, 0), some (.iaload, 1, [], 0, 0), some (.aload_n 0, 1, [0], 0, 0), some (.iload_n 3, 1, [3], 0, 0), some (.iconst 5, 1, [], 5, 0), some (.iadd, 1, [], 0, 0), some (.iaload, 1, [], 0, 0), some (.invokevirtual 49, 3, [0, 116, 6, 0], 0, 0), none, none, some (.aload_n 2, 1, [2], 0, 0), some (.aload_n 0, 1, [0], 0, 0), some (.iload_n 3, 1, [3], 0, 0), some (.iconst 1, 1, [], 1, 0), some (.iadd, 1, [], 0, 0), some (.iaload, 1, [], 0, 0), some (.aload_n 0, 1, [0], 0, 0), some (.iload_n 3, 1, [3], 0, 0), some (.iconst 2, 1, [], 2, 0)],
  [some (.iadd, 1, [], 0, 0), some (.iaload, 1, [], 0, 0), some (.aload_n 0, 1, [0], 0, 0), some (.iload_n 3, 1, [3], 0, 0), some (.iconst 3, 1, [], 3, 0), some (.iadd, 1, [], 0, 0), some (.iaload, 1, [], 0, 0), some (.aload_n 0, 1, [0], 0, 0), some (.iload_n 3, 1, [3], 0, 0), some (.iconst 4, 1, [], 4, 0), some (.iadd, 1, [], 0, 0), some (.iaload, 1, [], 0, 0), some (.aload_n 0, 1, [0], 0, 0), some (.iload_n 3, 1, [3], 0, 0), some (.iconst 5, 1, [], 5, 0), some (.iadd, 1, [], 0, 0), some (.iaload, 1, [], 0, 0), some (.invokevirtual 53, 3, [0, 178, 6, 0], 0, 0), none, none, some (.if_icmp .eq 1016, 3, [1516], 0, 0), none, none, some (.iconst 0, 1, [], 0, 0), some (.ireturn, 1, [], 0, 0), some (.aload_n 1, 1, [1], 0, 0), some (.aload_n 0, 1, [0], 0, 0), some (.iload_n 3, 1, [3], 0, 0), some (.iconst 1, 1, [], 1, 0), some (.iadd, 1, [], 0, 0), some (.iaload, 1, [], 0, 0), some (.invokevirtual 54, 3, [0, 117, 2, 0], 0, 0)],
  [none, none, some (.aload_n 2, 1, [2], 0, 0), some (.aload_n 0, 1, [0], 0, 0), some (.iload_n 3, 1, [3], 0, 0), some (.iconst 1, 1, [], 1, 0), some (.iadd, 1, [], 0, 0), some (.iaload, 1, [], 0, 0), some (.invokevirtual 58, 3, [0, 203, 2, 0], 0, 0), none, none, some (.if_icmp .eq 993, 3, [1516], 0, 0), none, none, some (.iconst 0, 1, [], 0, 0), some (.ireturn, 1, [], 0, 0), some (.aload_n 1, 1, [1], 0, 0), some (.aload_n 0, 1, [0], 0, 0), some (.iload_n 3, 1, [3], 0, 0), some (.iconst 1, 1, [], 1, 0), some (.iadd, 1, [], 0, 0), some (.iaload, 1, [], 0, 0), some (.invokevirtual 59, 3, [0, 118, 2, 0], 0, 0), none, none, some (.aload_n 2, 1, [2], 0, 0), some (.aload_n 0, 1, [0], 0, 0), some (.iload_n 3, 1, [3], 0, 0), some (.iconst 1, 1, [], 1, 0), some (.iadd, 1, [], 0, 0), some (.iaload, 1, [], 0, 0), some (.invokevirtual 62, 3, [0, 204, 2, 0], 0, 0)],
  [none, none, some (.if_icmp .eq 970, 3, [1516], 0, 0), none, none, some (.iconst 0, 1, [], 0, 0), some (.ireturn, 1, [], 0, 0), some (.aload_n 1, 1, [1], 0, 0), some (.aload_n 0, 1, [0], 0, 0), some (.iload_n 3, 1, [3], 0, 0), some (.iconst 1, 1, [], 1, 0), some (.iadd, 1, [], 0, 0), some (.iaload, 1, [], 0, 0), some (.invokevirtual 63, 3, [0, 119, 2, 0], 0, 0), none, none, some (.aload_n 2, 1, [2], 0, 0), some (.aload_n 0, 1, [0], 0, 0), some (.iload_n 3, 1, [3], 0, 0), some (.iconst 1, 1, [], 1, 0), some (.iadd, 1, [], 0, 0), some (.iaload, 1, [], 0, 0), some (.invokevirtual 66, 3, [0, 207, 2, 0], 0, 0), none, none, some (.if_icmp .eq 947, 3, [1516], 0, 0), none, none, some (.iconst 0, 1, [], 0, 0), some (.ireturn, 1, [], 0, 0), some (.aload_n 1, 1, [1], 0, 0), some (.aload_n 0, 1, [0], 0, 0)],
  [some (.iload_n 3, 1, [3], 0, 0), some (.iconst 1, 1, [], 1, 0), some (.iadd, 1, [], 0, 0), some (.iaload, 1, [], 0, 0), some (.aload_n 0, 1, [0], 0, 0), some (.iload_n 3, 1, [3], 0, 0), some (.iconst 2, 1, [], 2, 0), some (.iadd, 1, [], 0, 0), some (.iaload, 1, [], 0, 0), some (.invokevirtual 67, 3, [0, 120, 3, 0], 0, 0), none, none, some (.aload_n 2, 1, [2], 0, 0), some (.aload_n 0, 1, [0], 0, 0), some (.iload_n 3, 1, [3], 0, 0), some (.iconst 1, 1, [], 1, 0), some (.iadd, 1, [], 0, 0), some (.iaload, 1, [], 0, 0), some (.aload_n 0, 1, [0], 0, 0), some (.iload_n 3, 1, [3], 0, 0), some (.iconst 2, 1, [], 2, 0), some (.iadd, 1, [], 0, 0), some (.iaload, 1, [], 0, 0), some (.invokevirtual 71, 3, [0, 208, 3, 0], 0, 0), none, none, some (.if_icmp .eq 914, 3, [1516], 0, 0), none, none, some (.iconst 0, 1, [], 0, 0), some (.ireturn, 1, [], 0, 0), some (.aload_n 1, 1, [1], 0, 0)],
  [some (.aload_n 0, 1, [0], 0, 0), some (.iload_n 3, 1, [3], 0, 0), some (.iconst 1, 1, [], 1, 0), some (.iadd, 1, [], 0, 0), some (.iaload, 1, [], 0, 0), some (.aload_n 0, 1, [0], 0, 0), some (.iload_n 3, 1, [3], 0, 0), some (.iconst 2, 1, [], 2, 0), some (.iadd, 1, [], 0, 0), some (.iaload, 1, [], 0, 0), some (.aload_n 0, 1, [0], 0, 0), some (.iload_n 3, 1, [3], 0, 0), some (.iconst 3, 1, [], 3, 0), some (.iadd, 1, [], 0, 0), some (.iaload, 1, [], 0, 0), some (.aload_n 0, 1, [0], 0, 0), some (.iload_n 3, 1, [3], 0, 0), some (.iconst 4, 1, [], 4, 0), some (.iadd, 1, [], 0, 0), some (.iaload, 1, [], 0, 0), some (.aload_n 0, 1, [0], 0, 0), some (.iload_n 3, 1, [3], 0, 0), some (.iconst 5, 1, [], 5, 0), some (.iadd, 1, [], 0, 0), some (.iaload, 1, [], 0, 0), some (.invokevirtual 72, 3, [0, 121, 6, 0], 0, 0), none, none, some (.aload_n 2, 1, [2], 0, 0), some (.aload_n 0, 1, [0], 0, 0), some (.iload_n 3, 1, [3], 0, 0), some (.iconst 1, 1, [], 1, 0)],
  [some (.iadd, 1, [], 0, 0), some (.iaload, 1, [], 0, 0), some (.aload_n 0, 1, [0], 0, 0), some (.iload_n 3, 1, [3], 0, 0), some (.iconst 2, 1, [], 2, 0), some (.iadd, 1, [], 0, 0), some (.iaload, 1, [], 0, 0), some (.aload_n 0, 1, [0], 0, 0), some (.iload_n 3, 1, [3], 0, 0), some (.iconst 3, 1, [], 3, 0), some (.iadd, 1, [], 0, 0), some (.iaload, 1, [], 0, 0), some (.aload_n 0, 1, [0], 0, 0), some (.iload_n 3, 1, [3], 0, 0), some (.iconst 4, 1, [], 4, 0), some (.iadd, 1, [], 0, 0), some (.iaload, 1, [], 0, 0), some (.aload_n 0, 1, [0], 0, 0), some (.iload_n 3, 1, [3], 0, 0), some (.iconst 5, 1, [], 5, 0), some (.iadd, 1, [], 0, 0), some (.iaload, 1, [], 0, 0), some (.invokevirtual 75, 3, [0, 212, 6, 0], 0, 0), none, none, some (.if_icmp .eq 851, 3, [1516], 0, 0), none, none, some (.iconst 0, 1, [], 0, 0), some (.ireturn, 1, [], 0, 0), some (.aload_n 1, 1, [1], 0, 0), some (.aload_n 0, 1, [0], 0, 0)],
  [some (.iload_n 3, 1, [3], 0, 0), some (.iconst 1, 1, [], 1, 0), some (.iadd, 1, [], 0, 0), some (.iaload, 1, [], 0, 0), some (.aload_n 0, 1, [0], 0, 0), some (.iload_n 3, 1, [3], 0, 0), some (.iconst 2, 1, [], 2, 0), some (.iadd, 1, [], 0, 0), some (.iaload, 1, [], 0, 0), some (.aload_n 0, 1, [0], 0, 0), some (.iload_n 3, 1, [3], 0, 0), some (.iconst 3, 1, [], 3, 0), some (.iadd, 1, [], 0, 0), some (.iaload, 1, [], 0, 0), some (.invokevirtual 76, 3, [0, 122, 4, 0], 0, 0), none, none, some (.aload_n 2, 1, [2], 0, 0), some (.aload_n 0, 1, [0], 0, 0), some (.iload_n 3, 1, [3], 0, 0), some (.iconst 1, 1, [], 1, 0), some (.iadd, 1, [], 0, 0), some (.iaload, 1, [], 0, 0), some (.aload_n 0, 1, [0], 0, 0), some (.iload_n 3, 1, [3], 0, 0), some (.iconst 2, 1, [], 2, 0), some (.iadd, 1, [], 0, 0), some (.iaload, 1, [], 0, 0), some (.aload_n 0, 1, [0], 0, 0), some (.iload_n 3, 1, [3], 0, 0), some (.iconst 3, 1, [], 3, 0), some (.iadd, 1, [], 0, 0)],
  [some (.iaload, 1, [], 0, 0), some (.invokevirtual 79, 3, [0, 213, 4, 0], 0, 0), none, none, some (.if_icmp .eq 808, 3, [1516], 0, 0), none, none, some (.iconst 0, 1, [], 0, 0), some (.ireturn, 1, [], 0, 0), some (.aload_n 1, 1, [1], 0, 0), some (.aload_n 0, 1, [0], 0, 0), some (.iload_n 3, 1, [3], 0, 0), some (.iconst 1, 1, [], 1, 0), some (.iadd, 1, [], 0, 0), some (.iaload, 1, [], 0, 0), some (.invokevirtual 80, 3, [0, 123, 2, 0], 0, 0), none, none, some (.aload_n 2, 1, [2], 0, 0), some (.aload_n 0, 1, [0], 0, 0), some (.iload_n 3, 1, [3], 0, 0), some (.iconst 1, 1, [], 1, 0), some (.iadd, 1, [], 0, 0), some (.iaload, 1, [], 0, 0), some (.invokevirtual 84, 3, [0, 214, 2, 0], 0, 0), none, none, some (.if_icmp .eq 785, 3, [1516], 0, 0), none, none, some (.iconst 0, 1, [], 0, 0), some (.ireturn, 1, [], 0, 0)],
  [some (.aload_n 1, 1, [1], 0, 0), some (.aload_n 0, 1, [0], 0, 0), some (.iload_n 3, 1, [3], 0, 0), some (.iconst 1, 1, [], 1, 0), some (.iadd, 1, [], 0, 0), some (.iaload, 1, [], 0, 0), some (.aload_n 0, 1, [0], 0, 0), some (.iload_n 3, 1, [3], 0, 0), some (.iconst 2, 1, [], 2, 0), some (.iadd, 1, [], 0, 0), some (.iaload, 1, [], 0, 0), some (.aload_n 0, 1, [0], 0, 0), some (.iload_n 3, 1, [3], 0, 0), some (.iconst 3, 1, [], 3, 0), some (.iadd, 1, [], 0, 0), some (.iaload, 1, [], 0, 0), some (.invokevirtual 85, 3, [0, 124, 4, 0], 0, 0), none, none, some (.aload_n 2, 1, [2], 0, 0), some (.aload_n 0, 1, [0], 0, 0), some (.iload_n 3, 1, [3], 0, 0), some (.iconst 1, 1, [], 1, 0), some (.iadd, 1, [], 0, 0), some (.iaload, 1, [], 0, 0), some (.aload_n 0, 1, [0], 0, 0), some (.iload_n 3, 1, [3], 0, 0), some (.iconst 2, 1, [], 2, 0), some (.iadd, 1, [], 0, 0), some (.iaload, 1, [], 0, 0), some (.aload_n 0, 1, [0], 0, 0), some (.iload_n 3, 1, [3], 0, 0)],
  [some (.iconst 3, 1, [], 3, 0), some (.iadd, 1, [], 0, 0), some (.iaload, 1, [], 0, 0), some (.invokevirtual 89, 3, [0, 217, 4, 0], 0, 0), none, none, some (.if_icmp .eq 742, 3, [1516], 0, 0), none, none, some (.iconst 0, 1, [], 0, 0), some (.ireturn, 1, [], 0, 0), some (.aload_n 1, 1, [1], 0, 0), some (.aload_n 0, 1, [0], 0, 0), some (.iload_n 3, 1, [3], 0, 0), some (.iconst 1, 1, [], 1, 0), some (.iadd, 1, [], 0, 0), some (.iaload, 1, [], 0, 0), some (.aload_n 0, 1, [0], 0, 0), some (.iload_n 3, 1, [3], 0, 0), some (.iconst 2, 1, [], 2, 0), some (.iadd, 1, [], 0, 0), some (.iaload, 1, [], 0, 0), some (.aload_n 0, 1, [0], 0, 0), some (.iload_n 3, 1, [3], 0, 0), some (.iconst 3, 1, [], 3, 0), some (.iadd, 1, [], 0, 0), some (.iaload, 1, [], 0, 0), some (.aload_n 0, 1, [0], 0, 0), some (.iload_n 3, 1, [3], 0, 0), some (.iconst 4, 1, [], 4, 0), some (.iadd, 1, [], 0, 0), some (.iaload, 1, [], 0, 0)],
  [some (.invokevirtual 90, 3, [0, 125, 5, 0], 0, 0), none, none, some (.aload_n 2, 1, [2], 0, 0), some (.aload_n 0, 1, [0], 0, 0), some (.iload_n 3, 1, [3], 0, 0), some (.iconst 1, 1, [], 1, 0), some (.iadd, 1, [], 0, 0), some (.iaload, 1, [], 0, 0), some (.aload_n 0, 1, [0], 0, 0), some (.iload_n 3, 1, [3], 0, 0), some (.iconst 2, 1, [], 2, 0), some (.iadd, 1, [], 0, 0), some (.iaload, 1, [], 0, 0), some (.aload_n 0, 1, [0], 0, 0), some (.iload_n 3, 1, [3], 0, 0), some (.iconst 3, 1, [], 3, 0), some (.iadd, 1, [], 0, 0), some (.iaload, 1, [], 0, 0), some (.aload_n 0, 1, [0], 0, 0), some (.iload_n 3, 1, [3], 0, 0), some (.iconst 4, 1, [], 4, 0), some (.iadd, 1, [], 0, 0), some (.iaload, 1, [], 0, 0), some (.invokevirtual 94, 3, [0, 222, 5, 0], 0, 0), none, none, some (.if_icmp .eq 689, 3, [1516], 0, 0), none, none, some (.iconst 0, 1, [], 0, 0), some (.ireturn, 1, [], 0, 0)],
  [some (.aload_n 1, 1, [1], 0, 0), some (.aload_n 0, 1, [0], 0, 0), some (.iload_n 3, 1, [3], 0, 0), some (.iconst 1, 1, [], 1, 0), some (.iadd, 1, [], 0, 0), some (.iaload, 1, [], 0, 0), some (.invokevirtual 95, 3, [0, 126, 2, 0], 0, 0), none, none, some (.aload_n 2, 1, [2], 0, 0), some (.aload_n 0, 1, [0], 0, 0), some (.iload_n 3, 1, [3], 0, 0), some (.iconst 1, 1, [], 1, 0), some (.iadd, 1, [], 0, 0), some (.iaload, 1, [], 0, 0), some (.invokevirtual 98, 3, [0, 223, 2, 0], 0, 0), none, none, some (.if_icmp .eq 666, 3, [1516], 0, 0), none, none, some (.iconst 0, 1, [], 0, 0), some (.ireturn, 1, [], 0, 0), some (.aload_n 1, 1, [1], 0, 0), some (.aload_n 0, 1, [0], 0, 0), some (.iload_n 3, 1, [3], 0, 0), some (.iconst 1, 1, [], 1, 0), some (.iadd, 1, [], 0, 0), some (.iaload, 1, [], 0, 0), some (.aload_n 0, 1, [0], 0, 0), some (.iload_n 3, 1, [3], 0, 0), some (.iconst 2, 1, [], 2, 0)],
  [some (.iadd, 1, [], 0, 0), some (.iaload, 1, [], 0, 0), some (.aload_n 0, 1, [0], 0, 0), some (.iload_n 3, 1, [3], 0, 0), some (.iconst 3, 1, [], 3, 0), some (.iadd, 1, [], 0, 0), some (.iaload, 1, [], 0, 0), some (.aload_n 0, 1, [0], 0, 0), some (.iload_n 3, 1, [3], 0, 0), some (.iconst 4, 1, [], 4, 0), some (.iadd, 1, [], 0, 0), some (.iaload, 1, [], 0, 0), some (.invokevirtual 99, 3, [0, 127, 5, 0], 0, 0), none, none, some (.aload_n 2, 1, [2], 0, 0), some (.aload_n 0, 1, [0], 0, 0), some (.iload_n 3, 1, [3], 0, 0), some (.iconst 1, 1, [], 1, 0), some (.iadd, 1, [], 0, 0), some (.iaload, 1, [], 0, 0), some (.aload_n 0, 1, [0], 0, 0), some (.iload_n 3, 1, [3], 0, 0), some (.iconst 2, 1, [], 2, 0), some (.iadd, 1, [], 0, 0), some (.iaload, 1, [], 0, 0), some (.aload_n 0, 1, [0], 0, 0), some (.iload_n 3, 1, [3], 0, 0), some (.iconst 3, 1, [], 3, 0), some (.iadd, 1, [], 0, 0), some (.iaload, 1, [], 0, 0), some (.aload_n 0, 1, [0], 0, 0)],
  [some (.iload_n 3, 1, [3], 0, 0), some (.iconst 4, 1, [], 4, 0), some (.iadd, 1, [], 0, 0), some (.iaload, 1, [], 0, 0), some (.invokevirtual 102, 3, [0, 225, 5, 0], 0, 0), none, none, some (.if_icmp .eq 613, 3, [1516], 0, 0), none, none, some (.iconst 0, 1, [], 0, 0), some (.ireturn, 1, [], 0, 0), some (.aload_n 1, 1, [1], 0, 0), some (.aload_n 0, 1, [0], 0, 0), some (.iload_n 3, 1, [3], 0, 0), some (.iconst 1, 1, [], 1, 0), some (.iadd, 1, [], 0, 0), some (.iaload, 1, [], 0, 0), some (.invokevirtual 103, 3, [0, 128, 2, 0], 0, 0), none, none, some (.aload_n 2, 1, [2], 0, 0), some (.aload_n 0, 1, [0], 0, 0), some (.iload_n 3, 1, [3], 0, 0), some (.iconst 1, 1, [], 1, 0), some (.iadd, 1, [], 0, 0), some (.iaload, 1, [], 0, 0), some (.invokevirtual 106, 3, [0, 226, 2, 0], 0, 0), none, none, some (.if_icmp .eq 590, 3, [1516], 0, 0), none],
  [none, some (.iconst 0, 1, [], 0, 0), some (.ireturn, 1, [], 0, 0), some (.aload_n 1, 1, [1], 0, 0), some (.aload_n 0, 1, [0], 0, 0), some (.iload_n 3, 1, [3], 0, 0), some (.iconst 1, 1, [], 1, 0), some (.iadd, 1, [], 0, 0), some (.iaload, 1, [], 0, 0), some (.aload_n 0, 1, [0], 0, 0), some (.iload_n 3, 1, [3], 0, 0), some (.iconst 2, 1, [], 2, 0), some (.iadd, 1, [], 0, 0), some (.iaload, 1, [], 0, 0), some (.invokevirtual 107, 3, [0, 129, 3, 0], 0, 0), none, none, some (.aload_n 2, 1, [2], 0, 0), some (.aload_n 0, 1, [0], 0, 0), some (.iload_n 3, 1, [3], 0, 0), some (.iconst 1, 1, [], 1, 0), some (.iadd, 1, [], 0, 0), some (.iaload, 1, [], 0, 0), some (.aload_n 0, 1, [0], 0, 0), some (.iload_n 3, 1, [3], 0, 0), some (.iconst 2, 1, [], 2, 0), some (.iadd, 1, [], 0, 0), some (.iaload, 1, [], 0, 0), some (.invokevirtual 110, 3, [0, 236, 3, 0], 0, 0), none, none, some (.if_icmp .eq 557, 3, [1516], 0, 0)],
  [none, none, some (.iconst 0, 1, [], 0, 0), some (.ireturn, 1, [], 0, 0), some (.aload_n 1, 1, [1], 0, 0), some (.aload_n 0, 1, [0], 0, 0), some (.iload_n 3, 1, [3], 0, 0), some (.iconst 1, 1, [], 1, 0), some (.iadd, 1, [], 0, 0), some (.iaload, 1, [], 0, 0), some (.aload_n 0, 1, [0], 0, 0), some (.iload_n 3, 1, [3], 0, 0), some (.iconst 2, 1, [], 2, 0), some (.iadd, 1, [], 0, 0), some (.iaload, 1, [], 0, 0), some (.aload_n 0, 1, [0], 0, 0), some (.iload_n 3, 1, [3], 0, 0), some (.iconst 3, 1, [], 3, 0), some (.iadd, 1, [], 0, 0), some (.iaload, 1, [], 0, 0), some (.aload_n 0, 1, [0], 0, 0), some (.iload_n 3, 1, [3], 0, 0), some (.iconst 4, 1, [], 4, 0), some (.iadd, 1, [], 0, 0), some (.iaload, 1, [], 0, 0), some (.invokevirtual 111, 3, [0, 130, 5, 0], 0, 0), none, none, some (.aload_n 2, 1, [2], 0, 0), some (.aload_n 0, 1, [0], 0, 0), some (.iload_n 3, 1, [3], 0, 0), some (.iconst 1, 1, [], 1, 0)],
  [some (.iadd, 1, [], 0, 0), some (.iaload, 1, [], 0, 0), some (.aload_n 0, 1, [0], 0, 0), some (.iload_n 3, 1, [3], 0, 0), some (.iconst 2, 1, [], 2, 0), some (.iadd, 1, [], 0, 0), some (.iaload, 1, [], 0, 0), some (.aload_n 0, 1, [0], 0, 0), some (.iload_n 3, 1, [3], 0, 0), some (.iconst 3, 1, [], 3, 0), some (.iadd, 1, [], 0, 0), some (.iaload, 1, [], 0, 0), some (.aload_n 0, 1, [0], 0, 0), some (.iload_n 3, 1, [3], 0, 0), some (.iconst 4, 1, [], 4, 0), some (.iadd, 1, [], 0, 0), some (.iaload, 1, [], 0, 0), some (.invokevirtual 114, 3, [0, 237, 5, 0], 0, 0), none, none, some (.if_icmp .eq 504, 3, [1516], 0, 0), none, none, some (.iconst 0, 1, [], 0, 0), some (.ireturn, 1, [], 0, 0), some (.aload_n 1, 1, [1], 0, 0), some (.aload_n 0, 1, [0], 0, 0), some (.iload_n 3, 1, [3], 0, 0), some (.iconst 1, 1, [], 1, 0), some (.iadd, 1, [], 0, 0), some (.iaload, 1, [], 0, 0), some (.aload_n 0, 1, [0], 0, 0)],
  [some (.iload_n 3, 1, [3], 0, 0), some (.iconst 2, 1, [], 2, 0), some (.iadd, 1, [], 0, 0), some (.iaload, 1, [], 0, 0), some (.aload_n 0, 1, [0], 0, 0), some (.iload_n 3, 1, [3], 0, 0), some (.iconst 3, 1, [], 3, 0), some (.iadd, 1, [], 0, 0), some (.iaload, 1, [], 0, 0), some (.invokevirtual 115, 3, [0, 131, 4, 0], 0, 0), none, none, some (.aload_n 2, 1, [2], 0, 0), some (.aload_n 0, 1, [0], 0, 0), some (.iload_n 3, 1, [3], 0, 0), some (.iconst 1, 1, [], 1, 0), some (.iadd, 1, [], 0, 0), some (.iaload, 1, [], 0, 0), some (.aload_n 0, 1, [0], 0, 0), some (.iload_n 3, 1, [3], 0, 0), some (.iconst 2, 1, [], 2, 0), some (.iadd, 1, [], 0, 0), some (.iaload, 1, [], 0, 0), some (.aload_n 0, 1, [0], 0, 0), some (.iload_n 3, 1, [3], 0, 0), some (.iconst 3, 1, [], 3, 0), some (.iadd, 1, [], 0, 0), some (.iaload, 1, [], 0, 0), some (.invokevirtual 118, 3, [0, 238, 4, 0], 0, 0), none, none, some (.if_icmp .eq 461, 3, [1516], 0, 0)],
  [none, none, some (.iconst 0, 1, [], 0, 0), some (.ireturn, 1, [], 0, 0), some (.aload_n 1, 1, [1], 0, 0), some (.aload_n 0, 1, [0], 0, 0), some (.iload_n 3, 1, [3], 0, 0), some (.iconst 1, 1, [], 1, 0), some (.iadd, 1, [], 0, 0), some (.iaload, 1, [], 0, 0), some (.aload_n 0, 1, [0], 0, 0), some (.iload_n 3, 1, [3], 0, 0), some (.iconst 2, 1, [], 2, 0), some (.iadd, 1, [], 0, 0), some (.iaload, 1, [], 0, 0), some (.invokevirtual 119, 3, [0, 132, 3, 0], 0, 0), none, none, some (.aload_n 2, 1, [2], 0, 0), some (.aload_n 0, 1, [0], 0, 0), some (.iload_n 3, 1, [3], 0, 0), some (.iconst 1, 1, [], 1, 0), some (.iadd, 1, [], 0, 0), some (.iaload, 1, [], 0, 0), some (.aload_n 0, 1, [0], 0, 0), some (.iload_n 3, 1, [3], 0, 0), some (.iconst 2, 1, [], 2, 0), some (.iadd, 1, [], 0, 0), some (.iaload, 1, [], 0, 0), some (.invokevirtual 122, 3, [0, 239, 3, 0], 0, 0), none, none],
  [some (.if_icmp .eq 428, 3, [1516], 0, 0), none, none, some (.iconst 0, 1, [], 0, 0), some (.ireturn, 1, [], 0, 0), some (.aload_n 1, 1, [1], 0, 0), some (.aload_n 0, 1, [0], 0, 0), some (.iload_n 3, 1, [3], 0, 0), some (.iconst 1, 1, [], 1, 0), some (.iadd, 1, [], 0, 0), some (.iaload, 1, [], 0, 0), some (.aload_n 0, 1, [0], 0, 0), some (.iload_n 3, 1, [3], 0, 0), some (.iconst 2, 1, [], 2, 0), some (.iadd, 1, [], 0, 0), some (.iaload, 1, [], 0, 0), some (.aload_n 0, 1, [0], 0, 0), some (.iload_n 3, 1, [3], 0, 0), some (.iconst 3, 1, [], 3, 0), some (.iadd, 1, [], 0, 0), some (.iaload, 1, [], 0, 0), some (.invokevirtual 123, 3, [0, 133, 4, 0], 0, 0), none, none, some (.aload_n 2, 1, [2], 0, 0), some (.aload_n 0, 1, [0], 0, 0), some (.iload_n 3, 1, [3], 0, 0), some (.iconst 1, 1, [], 1, 0), some (.iadd, 1, [], 0, 0), some (.iaload, 1, [], 0, 0), some (.aload_n 0, 1, [0], 0, 0), some (.iload_n 3, 1, [3], 0, 0)],
  [some (.iconst 2, 1, [], 2, 0), some (.iadd, 1, [], 0, 0), some (.iaload, 1, [], 0, 0), some (.aload_n 0, 1, [0], 0, 0), some (.iload_n 3, 1, [3], 0, 0), some (.iconst 3, 1, [], 3, 0), some (.iadd, 1, [], 0, 0), some (.iaload, 1, [], 0, 0), some (.invokevirtual 126, 3, [0, 242, 4, 0], 0, 0), none, none, some (.if_icmp .eq 385, 3, [1516], 0, 0), none, none, some (.iconst 0, 1, [], 0, 0), some (.ireturn, 1, [], 0, 0), some (.aload_n 1, 1, [1], 0, 0), some (.aload_n 0, 1, [0], 0, 0), some (.iload_n 3, 1, [3], 0, 0), some (.iconst 1, 1, [], 1, 0), some (.iadd, 1, [], 0, 0), some (.iaload, 1, [], 0, 0), some (.aload_n 0, 1, [0], 0, 0), some (.iload_n 3, 1, [3], 0, 0), some (.iconst 2, 1, [], 2, 0), some (.iadd, 1, [], 0, 0), some (.iaload, 1, [], 0, 0), some (.aload_n 0, 1, [0], 0, 0), some (.iload_n 3, 1, [3], 0, 0), some (.iconst 3, 1, [], 3, 0), some (.iadd, 1, [], 0, 0), some (.iaload, 1, [], 0, 0)],
  [some (.invokevirtual 127, 3, [0, 134, 4, 0], 0, 0), none, none, some (.aload_n 2, 1, [2], 0, 0), some (.aload_n 0, 1, [0], 0, 0), some (.iload_n 3, 1, [3], 0, 0), some (.iconst 1, 1, [], 1, 0), some (.iadd, 1, [], 0, 0), some (.iaload, 1, [], 0, 0), some (.aload_n 0, 1, [0], 0, 0), some (.iload_n 3, 1, [3], 0, 0), some (.iconst 2, 1, [], 2, 0), some (.iadd, 1, [], 0, 0), some (.iaload, 1, [], 0, 0), some (.aload_n 0, 1, [0], 0, 0), some (.iload_n 3, 1, [3], 0, 0), some (.iconst 3, 1, [], 3, 0), some (.iadd, 1, [], 0, 0), some (.iaload, 1, [], 0, 0), some (.invokevirtual 130, 3, [0, 243, 4, 0], 0, 0), none, none, some (.if_icmp .eq 342, 3, [1516], 0, 0), none, none, some (.iconst 0, 1, [], 0, 0), some (.ireturn, 1, [], 0, 0), some (.aload_n 1, 1, [1], 0, 0), some (.aload_n 0, 1, [0], 0, 0), some (.iload_n 3, 1, [3], 0, 0), some (.iconst 1, 1, [], 1, 0), some (.iadd, 1, [], 0, 0)],
  [some (.iaload, 1, [], 0, 0), some (.aload_n 0, 1, [0], 0, 0), some (.iload_n 3, 1, [3], 0, 0), some (.iconst 2, 1, [], 2, 0), some (.iadd, 1, [], 0, 0), some (.iaload, 1, [], 0, 0), some (.invokevirtual 131, 3, [0, 135, 3, 0], 0, 0), none, none, some (.aload_n 2, 1, [2], 0, 0), some (.aload_n 0, 1, [0], 0, 0), some (.iload_n 3, 1, [3], 0, 0), some (.iconst 1, 1, [], 1, 0), some (.iadd, 1, [], 0, 0), some (.iaload, 1, [], 0, 0), some (.aload_n 0, 1, [0], 0, 0), some (.iload_n 3, 1, [3], 0, 0), some (.iconst 2, 1, [], 2, 0), some (.iadd, 1, [], 0, 0), some (.iaload, 1, [], 0, 0), some (.invokevirtual 134, 3, [0, 247, 3, 0], 0, 0), none, none, some (.if_icmp .eq 309, 3, [1516], 0, 0), none, none, some (.iconst 0, 1, [], 0, 0), some (.ireturn, 1, [], 0, 0), some (.aload_n 1, 1, [1], 0, 0), some (.aload_n 0, 1, [0], 0, 0), some (.iload_n 3, 1, [3], 0, 0), some (.iconst 1, 1, [], 1, 0)],
  [some (.iadd, 1, [], 0, 0), some (.iaload, 1, [], 0, 0), some (.aload_n 0, 1, [0], 0, 0), some (.iload_n 3, 1, [3], 0, 0), some (.iconst 2, 1, [], 2, 0), some (.iadd, 1, [], 0, 0), some (.iaload, 1, [], 0, 0), some (.invokevirtual 135, 3, [0, 136, 3, 0], 0, 0), none, none, some (.aload_n 2, 1, [2], 0, 0), some (.aload_n 0, 1, [0], 0, 0), some (.iload_n 3, 1, [3], 0, 0), some (.iconst 1, 1, [], 1, 0), some (.iadd, 1, [], 0, 0), some (.iaload, 1, [], 0, 0), some (.aload_n 0, 1, [0], 0, 0), some (.iload_n 3, 1, [3], 0, 0), some (.iconst 2, 1, [], 2, 0), some (.iadd, 1, [], 0, 0), some (.iaload, 1, [], 0, 0), some (.invokevirtual 138, 3, [0, 248, 3, 0], 0, 0), none, none, some (.if_icmp .eq 276, 3, [1516], 0, 0), none, none, some (.iconst 0, 1, [], 0, 0), some (.ireturn, 1, [], 0, 0), some (.aload_n 1, 1, [1], 0, 0), some (.aload_n 0, 1, [0], 0, 0), some (.iload_n 3, 1, [3], 0, 0)],
  [some (.iconst 1, 1, [], 1, 0), some (.iadd, 1, [], 0, 0), some (.iaload, 1, [], 0, 0), some (.aload_n 0, 1, [0], 0, 0), some (.iload_n 3, 1, [3], 0, 0), some (.iconst 2, 1, [], 2, 0), some (.iadd, 1, [], 0, 0), some (.iaload, 1, [], 0, 0), some (.aload_n 0, 1, [0], 0, 0), some (.iload_n 3, 1, [3], 0, 0), some (.iconst 3, 1, [], 3, 0), some (.iadd, 1, [], 0, 0), some (.iaload, 1, [], 0, 0), some (.aload_n 0, 1, [0], 0, 0), some (.iload_n 3, 1, [3], 0, 0), some (.iconst 4, 1, [], 4, 0), some (.iadd, 1, [], 0, 0), some (.iaload, 1, [], 0, 0), some (.invokevirtual 139, 3, [0, 137, 5, 0], 0, 0), none, none, some (.aload_n 2, 1, [2], 0, 0), some (.aload_n 0, 1, [0], 0, 0), some (.iload_n 3, 1, [3], 0, 0), some (.iconst 1, 1, [], 1, 0), some (.iadd, 1, [], 0, 0), some (.iaload, 1, [], 0, 0), some (.aload_n 0, 1, [0], 0, 0), some (.iload_n 3, 1, [3], 0, 0), some (.iconst 2, 1, [], 2, 0), some (.iadd, 1, [], 0, 0), some (.iaload, 1, [], 0, 0)],
  [some (.aload_n 0, 1, [0], 0, 0), some (.iload_n 3, 1, [3], 0, 0), some (.iconst 3, 1, [], 3, 0), some (.iadd, 1, [], 0, 0), some (.iaload, 1, [], 0, 0), some (.aload_n 0, 1, [0], 0, 0), some (.iload_n 3, 1, [3], 0, 0), some (.iconst 4, 1, [], 4, 0), some (.iadd, 1, [], 0, 0), some (.iaload, 1, [], 0, 0), some (.invokevirtual 142, 3, [0, 244, 5, 0], 0, 0), none, none, some (.if_icmp .eq 223, 3, [1516], 0, 0), none, none, some (.iconst 0, 1, [], 0, 0), some (.ireturn, 1, [], 0, 0), some (.aload_n 1, 1, [1], 0, 0), some (.aload_n 0, 1, [0], 0, 0), some (.iload_n 3, 1, [3], 0, 0), some (.iconst 1, 1, [], 1, 0), some (.iadd, 1, [], 0, 0), some (.iaload, 1, [], 0, 0), some (.aload_n 0, 1, [0], 0, 0), some (.iload_n 3, 1, [3], 0, 0), some (.iconst 2, 1, [], 2, 0), some (.iadd, 1, [], 0, 0), some (.iaload, 1, [], 0, 0), some (.aload_n 0, 1, [0], 0, 0), some (.iload_n 3, 1, [3], 0, 0), some (.iconst 3, 1, [], 3, 0)],
  [some (.iadd, 1, [], 0, 0), some (.iaload, 1, [], 0, 0), some (.invokevirtual 143, 3, [0, 138, 4, 0], 0, 0), none, none, some (.aload_n 2, 1, [2], 0, 0), some (.aload_n 0, 1, [0], 0, 0), some (.iload_n 3, 1, [3], 0, 0), some (.iconst 1, 1, [], 1, 0), some (.iadd, 1, [], 0, 0), some (.iaload, 1, [], 0, 0), some (.aload_n 0, 1, [0], 0, 0), some (.iload_n 3, 1, [3], 0, 0), some (.iconst 2, 1, [], 2, 0), some (.iadd, 1, [], 0, 0), some (.iaload, 1, [], 0, 0), some (.aload_n 0, 1, [0], 0, 0), some (.iload_n 3, 1, [3], 0, 0), some (.iconst 3, 1, [], 3, 0), some (.iadd, 1, [], 0, 0), some (.iaload, 1, [], 0, 0), some (.invokevirtual 146, 3, [0, 249, 4, 0], 0, 0), none, none, some (.if_icmp .eq 180, 3, [1516], 0, 0), none, none, some (.iconst 0, 1, [], 0, 0), some (.ireturn, 1, [], 0, 0), some (.aload_n 1, 1, [1], 0, 0), some (.aload_n 0, 1, [0], 0, 0), some (.iload_n 3, 1, [3], 0, 0)],
  [some (.iconst 1, 1, [], 1, 0), some (.iadd, 1, [], 0, 0), some (.iaload, 1, [], 0, 0), some (.aload_n 0, 1, [0], 0, 0), some (.iload_n 3, 1, [3], 0, 0), some (.iconst 2, 1, [], 2, 0), some (.iadd, 1, [], 0, 0), some (.iaload, 1, [], 0, 0), some (.aload_n 0, 1, [0], 0, 0), some (.iload_n 3, 1, [3], 0, 0), some (.iconst 3, 1, [], 3, 0), some (.iadd, 1, [], 0, 0), some (.iaload, 1, [], 0, 0), some (.invokevirtual 147, 3, [0, 139, 4, 0], 0, 0), none, none, some (.aload_n 2, 1, [2], 0, 0), some (.aload_n 0, 1, [0], 0, 0), some (.iload_n 3, 1, [3], 0, 0), some (.iconst 1, 1, [], 1, 0), some (.iadd, 1, [], 0, 0), some (.iaload, 1, [], 0, 0), some (.aload_n 0, 1, [0], 0, 0), some (.iload_n 3, 1, [3], 0, 0), some (.iconst 2, 1, [], 2, 0), some (.iadd, 1, [], 0, 0), some (.iaload, 1, [], 0, 0), some (.aload_n 0, 1, [0], 0, 0), some (.iload_n 3, 1, [3], 0, 0), some (.iconst 3, 1, [], 3, 0), some (.iadd, 1, [], 0, 0), some (.iaload, 1, [], 0, 0)],
  [some (.invokevirtual 150, 3, [0, 250, 4, 0], 0, 0), none, none, some (.if_icmp .eq 137, 3, [1516], 0, 0), none, none, some (.iconst 0, 1, [], 0, 0), some (.ireturn, 1, [], 0, 0), some (.aload_n 1, 1, [1], 0, 0), some (.aload_n 0, 1, [0], 0, 0), some (.iload_n 3, 1, [3], 0, 0), some (.iconst 1, 1, [], 1, 0), some (.iadd, 1, [], 0, 0), some (.iaload, 1, [], 0, 0), some (.aload_n 0, 1, [0], 0, 0), some (.iload_n 3, 1, [3], 0, 0), some (.iconst 2, 1, [], 2, 0), some (.iadd, 1, [], 0, 0), some (.iaload, 1, [], 0, 0), some (.invokevirtual 151, 3, [0, 140, 3, 0], 0, 0), none, none, some (.aload_n 2, 1, [2], 0, 0), some (.aload_n 0, 1, [0], 0, 0), some (.iload_n 3, 1, [3], 0, 0), some (.iconst 1, 1, [], 1, 0), some (.iadd, 1, [], 0, 0), some (.iaload, 1, [], 0, 0), some (.aload_n 0, 1, [0], 0, 0), some (.iload_n 3, 1, [3], 0, 0), some (.iconst 2, 1, [], 2, 0), some (.iadd, 1, [], 0, 0)],
  [some (.iaload, 1, [], 0, 0), some (.invokevirtual 154, 3, [0, 251, 3, 0], 0, 0), none, none, some (.if_icmp .eq 104, 3, [1516], 0, 0), none, none, some (.iconst 0, 1, [], 0, 0), some (.ireturn, 1, [], 0, 0), some (.aload_n 1, 1, [1], 0, 0), some (.aload_n 0, 1, [0], 0, 0), some (.iload_n 3, 1, [3], 0, 0), some (.iconst 1, 1, [], 1, 0), some (.iadd, 1, [], 0, 0), some (.iaload, 1, [], 0, 0), some (.invokevirtual 155, 3, [0, 141, 2, 0], 0, 0), none, none, some (.aload_n 2, 1, [2], 0, 0), some (.aload_n 0, 1, [0], 0, 0), some (.iload_n 3, 1, [3], 0, 0), some (.iconst 1, 1, [], 1, 0), some (.iadd, 1, [], 0, 0), some (.iaload, 1, [], 0, 0), some (.invokevirtual 158, 3, [0, 252, 2, 0], 0, 0), none, none, some (.if_icmp .eq 81, 3, [1516], 0, 0), none, none, some (.iconst 0, 1, [], 0, 0), some (.ireturn, 1, [], 0, 0)],
  [some (.aload_n 1, 1, [1], 0, 0), some (.aload_n 0, 1, [0], 0, 0), some (.iload_n 3, 1, [3], 0, 0), some (.iconst 1, 1, [], 1, 0), some (.iadd, 1, [], 0, 0), some (.iaload, 1, [], 0, 0), some (.aload_n 0, 1, [0], 0, 0), some (.iload_n 3, 1, [3], 0, 0), some (.iconst 2, 1, [], 2, 0), some (.iadd, 1, [], 0, 0), some (.iaload, 1, [], 0, 0), some (.aload_n 0, 1, [0], 0, 0), some (.iload_n 3, 1, [3], 0, 0), some (.iconst 3, 1, [], 3, 0), some (.iadd, 1, [], 0, 0), some (.iaload, 1, [], 0, 0), some (.aload_n 0, 1, [0], 0, 0), some (.iload_n 3, 1, [3], 0, 0), some (.iconst 4, 1, [], 4, 0), some (.iadd, 1, [], 0, 0), some (.iaload, 1, [], 0, 0), some (.invokevirtual 159, 3, [0, 142, 5, 0], 0, 0), none, none, some (.aload_n 2, 1, [2], 0, 0), some (.aload_n 0, 1, [0], 0, 0), some (.iload_n 3, 1, [3], 0, 0), some (.iconst 1, 1, [], 1, 0), some (.iadd, 1, [], 0, 0), some (.iaload, 1, [], 0, 0), some (.aload_n 0, 1, [0], 0, 0), some (.iload_n 3, 1, [3], 0, 0)],
  [some (.iconst 2, 1, [], 2, 0), some (.iadd, 1, [], 0, 0), some (.iaload, 1, [], 0, 0), some (.aload_n 0, 1, [0], 0, 0), some (.iload_n 3, 1, [3], 0, 0), some (.iconst 3, 1, [], 3, 0), some (.iadd, 1, [], 0, 0), some (.iaload, 1, [], 0, 0), some (.aload_n 0, 1, [0], 0, 0), some (.iload_n 3, 1, [3], 0, 0), some (.iconst 4, 1, [], 4, 0), some (.iadd, 1, [], 0, 0), some (.iaload, 1, [], 0, 0), some (.invokevirtual 162, 3, [0, 253, 5, 0], 0, 0), none, none, some (.if_icmp .eq 28, 3, [1516], 0, 0), none, none, some (.iconst 0, 1, [], 0, 0), some (.ireturn, 1, [], 0, 0), some (.aload_n 1, 1, [1], 0, 0), some (.aload_n 0, 1, [0], 0, 0), some (.iload_n 3, 1, [3], 0, 0), some (.iconst 1, 1, [], 1, 0), some (.iadd, 1, [], 0, 0), some (.iaload, 1, [], 0, 0), some (.invokevirtual 163, 3, [0, 143, 2, 0], 0, 0), none, none, some (.aload_n 2, 1, [2], 0, 0), some (.aload_n 0, 1, [0], 0, 0)],
  [some (.iload_n 3, 1, [3], 0, 0), some (.iconst 1, 1, [], 1, 0), some (.iadd, 1, [], 0, 0), some (.iaload, 1, [], 0, 0), some (.invokevirtual 166, 3, [0, 254, 2, 0], 0, 0), none, none, some (.if_icmp .eq 5, 3, [1516], 0, 0), none, none, some (.iconst 0, 1, [], 0, 0), some (.ireturn, 1, [], 0, 0), some (.iinc 3 6, 3, [3], 6, 0), none, none, some (.goto (-1501), 3, [18], 0, 0), none, none, some (.iconst 1, 1, [], 1, 0), some (.ireturn, 1, [], 0, 0)]]
def F_Law_law_18 (N : Nat) (xs : Nat → Int32) (bk : (Nat → Int32 → MH → Option (Int32 × MH))) (q0 : Nat) (a3 : Int32) (h : MH) : Option (Int32 × MH) :=
  if ((nI q0) - 6) < a3 then
  (some (1, h))
  else
  (if inB a3 q0 = true then
  (if ((xs (iN a3)) &&& 63) = nI 0 then
  ((f_S_status N h).bind (fun x1 =>
  (f_M_status N x1.2).bind (fun x2 =>
  if x1.1 = x2.1 then
  (let v3 : Int32 := a3 + 6
  bk q0 v3 x2.2)
  else
  (some (0, x2.2)))))
  else
  (if ((xs (iN a3)) &&& 63) = nI 1 then
  ((f_S_top N h).bind (fun x4 =>
  (f_M_top N x4.2).bind (fun x5 =>
  if (lg_cmp x4.1 x5.1) = 0 then
  (let v6 : Int32 := a3 + 6
  bk q0 v6 x5.2)
  else
  (some (0, x5.2)))))
  else
  (if ((xs (iN a3)) &&& 63) = nI 2 then
  ((f_S_bottom N h).bind (fun x7 =>
  (f_M_bottom N x7.2).bind (fun x8 =>
  if (lg_cmp x7.1 x8.1) = 0 then
  (let v9 : Int32 := a3 + 6
  bk q0 v9 x8.2)
  else
  (some (0, x8.2)))))
  else
  (if ((xs (iN a3)) &&& 63) = nI 3 then
  (if inB (a3 + 1) q0 = true then
  (if inB (a3 + 2) q0 = true then
  (if inB (a3 + 3) q0 = true then
  ((f_S_tray N (xs (iN (a3 + 1))) (xs (iN (a3 + 2))) (xs (iN (a3 + 3))) h).bind (fun x10 =>
  if inB (a3 + 1) q0 = true then
  (if inB (a3 + 2) q0 = true then
  (if inB (a3 + 3) q0 = true then
  ((f_M_tray N (xs (iN (a3 + 1))) (xs (iN (a3 + 2))) (xs (iN (a3 + 3))) x10.2).bind (fun x11 =>
  if x10.1 = x11.1 then
  (let v12 : Int32 := a3 + 6
  bk q0 v12 x11.2)
  else
  (some (0, x11.2))))
  else none)
  else none)
  else none))
  else none)
  else none)
  else none)
  else
  (if ((xs (iN a3)) &&& 63) = nI 4 then
  (if inB (a3 + 1) q0 = true then
  (if inB (a3 + 2) q0 = true then
  (if inB (a3 + 3) q0 = true then
  (if inB (a3 + 4) q0 = true then
  ((f_S_write N (xs (iN (a3 + 1))) (xs (iN (a3 + 2))) (((((xs (iN (a3 + 3)))).toInt64) <<< (Int32.toInt64 32 &&& 63)) ||| ((((xs (iN (a3 + 4)))).toInt64) &&& 4294967295)) h).bind (fun x13 =>
  if inB (a3 + 1) q0 = true then
  (if inB (a3 + 2) q0 = true then
  (if inB (a3 + 3) q0 = true then
  (if inB (a3 + 4) q0 = true then
  ((f_M_write N (xs (iN (a3 + 1))) (xs (iN (a3 + 2))) (((((xs (iN (a3 + 3)))).toInt64) <<< (Int32.toInt64 32 &&& 63)) ||| ((((xs (iN (a3 + 4)))).toInt64) &&& 4294967295)) x13.2).bind (fun x14 =>
  if x13.1 = x14.1 then
  (let v15 : Int32 := a3 + 6
  bk q0 v15 x14.2)
  else
  (some (0, x14.2))))
  else none)
  else none)
  else none)
  else none))
  else none)
  else none)
  else none)
  else none)
  else
  (if ((xs (iN a3)) &&& 63) = nI 5 then
  (if inB (a3 + 1) q0 = true then
  (if inB (a3 + 2) q0 = true then
  ((f_S_read N (xs (iN (a3 + 1))) (xs (iN (a3 + 2))) h).bind (fun x16 =>
  if inB (a3 + 1) q0 = true then
  (if inB (a3 + 2) q0 = true then
  ((f_M_read N (xs (iN (a3 + 1))) (xs (iN (a3 + 2))) x16.2).bind (fun x17 =>
  if (lg_cmp x16.1 x17.1) = 0 then
  (let v18 : Int32 := a3 + 6
  bk q0 v18 x17.2)
  else
  (some (0, x17.2))))
  else none)
  else none))
  else none)
  else none)
  else
  (if ((xs (iN a3)) &&& 63) = nI 6 then
  (if inB (a3 + 1) q0 = true then
  (if inB (a3 + 2) q0 = true then
  (if inB (a3 + 3) q0 = true then
  (if inB (a3 + 4) q0 = true then
  (if inB (a3 + 5) q0 = true then
  ((f_S_pour N (xs (iN (a3 + 1))) (xs (iN (a3 + 2))) (xs (iN (a3 + 3))) (xs (iN (a3 + 4))) (xs (iN (a3 + 5))) h).bind (fun x19 =>
  if inB (a3 + 1) q0 = true then
  (if inB (a3 + 2) q0 = true then
  (if inB (a3 + 3) q0 = true then
  (if inB (a3 + 4) q0 = true then
  (if inB (a3 + 5) q0 = true then
  ((f_M_pour N (xs (iN (a3 + 1))) (xs (iN (a3 + 2))) (xs (iN (a3 + 3))) (xs (iN (a3 + 4))) (xs (iN (a3 + 5))) x19.2).bind (fun x20 =>
  if x19.1 = x20.1 then
  (let v21 : Int32 := a3 + 6
  bk q0 v21 x20.2)
  else
  (some (0, x20.2))))
  else none)
  else none)
  else none)
  else none)
  else none))
  else none)
  else none)
  else none)
  else none)
  else none)
  else
  (if ((xs (iN a3)) &&& 63) = nI 7 then
  (if inB (a3 + 1) q0 = true then
  (if inB (a3 + 2) q0 = true then
  (if inB (a3 + 3) q0 = true then
  (if inB (a3 + 4) q0 = true then
  (if inB (a3 + 5) q0 = true then
  ((f_S_feed N (xs (iN (a3 + 1))) (xs (iN (a3 + 2))) (xs (iN (a3 + 3))) (xs (iN (a3 + 4))) (xs (iN (a3 + 5))) h).bind (fun x22 =>
  if inB (a3 + 1) q0 = true then
  (if inB (a3 + 2) q0 = true then
  (if inB (a3 + 3) q0 = true then
  (if inB (a3 + 4) q0 = true then
  (if inB (a3 + 5) q0 = true then
  ((f_M_feed N (xs (iN (a3 + 1))) (xs (iN (a3 + 2))) (xs (iN (a3 + 3))) (xs (iN (a3 + 4))) (xs (iN (a3 + 5))) x22.2).bind (fun x23 =>
  if x22.1 = x23.1 then
  (let v24 : Int32 := a3 + 6
  bk q0 v24 x23.2)
  else
  (some (0, x23.2))))
  else none)
  else none)
  else none)
  else none)
  else none))
  else none)
  else none)
  else none)
  else none)
  else none)
  else
  (if ((xs (iN a3)) &&& 63) = nI 8 then
  (if inB (a3 + 1) q0 = true then
  ((f_S_land N (xs (iN (a3 + 1))) h).bind (fun x25 =>
  if inB (a3 + 1) q0 = true then
  ((f_M_land N (xs (iN (a3 + 1))) x25.2).bind (fun x26 =>
  if x25.1 = x26.1 then
  (let v27 : Int32 := a3 + 6
  bk q0 v27 x26.2)
  else
  (some (0, x26.2))))
  else none))
  else none)
  else
  (if ((xs (iN a3)) &&& 63) = nI 9 then
  (if inB (a3 + 1) q0 = true then
  ((f_S_fault N (xs (iN (a3 + 1))) h).bind (fun x28 =>
  if inB (a3 + 1) q0 = true then
  ((f_M_fault N (xs (iN (a3 + 1))) x28.2).bind (fun x29 =>
  if x28.1 = x29.1 then
  (let v30 : Int32 := a3 + 6
  bk q0 v30 x29.2)
  else
  (some (0, x29.2))))
  else none))
  else none)
  else
  (if ((xs (iN a3)) &&& 63) = nI 10 then
  (if inB (a3 + 1) q0 = true then
  ((f_S_many N (xs (iN (a3 + 1))) h).bind (fun x31 =>
  if inB (a3 + 1) q0 = true then
  ((f_M_many N (xs (iN (a3 + 1))) x31.2).bind (fun x32 =>
  if x31.1 = x32.1 then
  (let v33 : Int32 := a3 + 6
  bk q0 v33 x32.2)
  else
  (some (0, x32.2))))
  else none))
  else none)
  else
  (if ((xs (iN a3)) &&& 63) = nI 11 then
  (if inB (a3 + 1) q0 = true then
  (if inB (a3 + 2) q0 = true then
  ((f_S_moves N (xs (iN (a3 + 1))) (xs (iN (a3 + 2))) h).bind (fun x34 =>
  if inB (a3 + 1) q0 = true then
  (if inB (a3 + 2) q0 = true then
  ((f_M_moves N (xs (iN (a3 + 1))) (xs (iN (a3 + 2))) x34.2).bind (fun x35 =>
  if x34.1 = x35.1 then
  (let v36 : Int32 := a3 + 6
  bk q0 v36 x35.2)
  else
  (some (0, x35.2))))
  else none)
  else none))
  else none)
  else none)
  else
  (if ((xs (iN a3)) &&& 63) = nI 12 then
  (if inB (a3 + 1) q0 = true then
  (if inB (a3 + 2) q0 = true then
  (if inB (a3 + 3) q0 = true then
  (if inB (a3 + 4) q0 = true then
  (if inB (a3 + 5) q0 = true then
  ((f_S_row N (xs (iN (a3 + 1))) (xs (iN (a3 + 2))) (xs (iN (a3 + 3))) (xs (iN (a3 + 4))) (xs (iN (a3 + 5))) h).bind (fun x37 =>
  if inB (a3 + 1) q0 = true then
  (if inB (a3 + 2) q0 = true then
  (if inB (a3 + 3) q0 = true then
  (if inB (a3 + 4) q0 = true then
  (if inB (a3 + 5) q0 = true then
  ((f_M_row N (xs (iN (a3 + 1))) (xs (iN (a3 + 2))) (xs (iN (a3 + 3))) (xs (iN (a3 + 4))) (xs (iN (a3 + 5))) x37.2).bind (fun x38 =>
  if x37.1 = x38.1 then
  (let v39 : Int32 := a3 + 6
  bk q0 v39 x38.2)
  else
  (some (0, x38.2))))
  else none)
  else none)
  else none)
  else none)
  else none))
  else none)
  else none)
  else none)
  else none)
  else none)
  else
  (if ((xs (iN a3)) &&& 63) = nI 13 then
  (if inB (a3 + 1) q0 = true then
  (if inB (a3 + 2) q0 = true then
  (if inB (a3 + 3) q0 = true then
  ((f_S_offset N (xs (iN (a3 + 1))) (xs (iN (a3 + 2))) (xs (iN (a3 + 3))) h).bind (fun x40 =>
  if inB (a3 + 1) q0 = true then
  (if inB (a3 + 2) q0 = true then
  (if inB (a3 + 3) q0 = true then
  ((f_M_offset N (xs (iN (a3 + 1))) (xs (iN (a3 + 2))) (xs (iN (a3 + 3))) x40.2).bind (fun x41 =>
  if x40.1 = x41.1 then
  (let v42 : Int32 := a3 + 6
  bk q0 v42 x41.2)
  else
  (some (0, x41.2))))
  else none)
  else none)
  else none))
  else none)
  else none)
  else none)
  else
  (if ((xs (iN a3)) &&& 63) = nI 14 then
  (if inB (a3 + 1) q0 = true then
  ((f_S_asof N (xs (iN (a3 + 1))) h).bind (fun x43 =>
  if inB (a3 + 1) q0 = true then
  ((f_M_asof N (xs (iN (a3 + 1))) x43.2).bind (fun x44 =>
  if x43.1 = x44.1 then
  (let v45 : Int32 := a3 + 6
  bk q0 v45 x44.2)
  else
  (some (0, x44.2))))
  else none))
  else none)
  else
  (if ((xs (iN a3)) &&& 63) = nI 15 then
  (if inB (a3 + 1) q0 = true then
  (if inB (a3 + 2) q0 = true then
  (if inB (a3 + 3) q0 = true then
  ((f_S_value N (xs (iN (a3 + 1))) (xs (iN (a3 + 2))) (xs (iN (a3 + 3))) h).bind (fun x46 =>
  if inB (a3 + 1) q0 = true then
  (if inB (a3 + 2) q0 = true then
  (if inB (a3 + 3) q0 = true then
  ((f_M_value N (xs (iN (a3 + 1))) (xs (iN (a3 + 2))) (xs (iN (a3 + 3))) x46.2).bind (fun x47 =>
  if x46.1 = x47.1 then
  (let v48 : Int32 := a3 + 6
  bk q0 v48 x47.2)
  else
  (some (0, x47.2))))
  else none)
  else none)
  else none))
  else none)
  else none)
  else none)
  else
  (if ((xs (iN a3)) &&& 63) = nI 16 then
  (if inB (a3 + 1) q0 = true then
  (if inB (a3 + 2) q0 = true then
  (if inB (a3 + 3) q0 = true then
  (if inB (a3 + 4) q0 = true then
  ((f_S_line N (xs (iN (a3 + 1))) (xs (iN (a3 + 2))) (xs (iN (a3 + 3))) (xs (iN (a3 + 4))) h).bind (fun x49 =>
  if inB (a3 + 1) q0 = true then
  (if inB (a3 + 2) q0 = true then
  (if inB (a3 + 3) q0 = true then
  (if inB (a3 + 4) q0 = true then
  ((f_M_line N (xs (iN (a3 + 1))) (xs (iN (a3 + 2))) (xs (iN (a3 + 3))) (xs (iN (a3 + 4))) x49.2).bind (fun x50 =>
  if x49.1 = x50.1 then
  (let v51 : Int32 := a3 + 6
  bk q0 v51 x50.2)
  else
  (some (0, x50.2))))
  else none)
  else none)
  else none)
  else none))
  else none)
  else none)
  else none)
  else none)
  else
  (if ((xs (iN a3)) &&& 63) = nI 17 then
  (if inB (a3 + 1) q0 = true then
  ((f_S_breaks N (xs (iN (a3 + 1))) h).bind (fun x52 =>
  if inB (a3 + 1) q0 = true then
  ((f_M_breaks N (xs (iN (a3 + 1))) x52.2).bind (fun x53 =>
  if x52.1 = x53.1 then
  (let v54 : Int32 := a3 + 6
  bk q0 v54 x53.2)
  else
  (some (0, x53.2))))
  else none))
  else none)
  else
  (if ((xs (iN a3)) &&& 63) = nI 18 then
  (if inB (a3 + 1) q0 = true then
  (if inB (a3 + 2) q0 = true then
  (if inB (a3 + 3) q0 = true then
  (if inB (a3 + 4) q0 = true then
  ((f_S_slow N (xs (iN (a3 + 1))) (xs (iN (a3 + 2))) (xs (iN (a3 + 3))) (xs (iN (a3 + 4))) h).bind (fun x55 =>
  if inB (a3 + 1) q0 = true then
  (if inB (a3 + 2) q0 = true then
  (if inB (a3 + 3) q0 = true then
  (if inB (a3 + 4) q0 = true then
  ((f_M_slow N (xs (iN (a3 + 1))) (xs (iN (a3 + 2))) (xs (iN (a3 + 3))) (xs (iN (a3 + 4))) x55.2).bind (fun x56 =>
  if x55.1 = x56.1 then
  (let v57 : Int32 := a3 + 6
  bk q0 v57 x56.2)
  else
  (some (0, x56.2))))
  else none)
  else none)
  else none)
  else none))
  else none)
  else none)
  else none)
  else none)
  else
  (if ((xs (iN a3)) &&& 63) = nI 19 then
  (if inB (a3 + 1) q0 = true then
  ((f_S_smooth N (xs (iN (a3 + 1))) h).bind (fun x58 =>
  if inB (a3 + 1) q0 = true then
  ((f_M_smooth N (xs (iN (a3 + 1))) x58.2).bind (fun x59 =>
  if x58.1 = x59.1 then
  (let v60 : Int32 := a3 + 6
  bk q0 v60 x59.2)
  else
  (some (0, x59.2))))
  else none))
  else none)
  else
  (if ((xs (iN a3)) &&& 63) = nI 20 then
  (if inB (a3 + 1) q0 = true then
  (if inB (a3 + 2) q0 = true then
  ((f_S_slips N (xs (iN (a3 + 1))) (xs (iN (a3 + 2))) h).bind (fun x61 =>
  if inB (a3 + 1) q0 = true then
  (if inB (a3 + 2) q0 = true then
  ((f_M_slips N (xs (iN (a3 + 1))) (xs (iN (a3 + 2))) x61.2).bind (fun x62 =>
  if x61.1 = x62.1 then
  (let v63 : Int32 := a3 + 6
  bk q0 v63 x62.2)
  else
  (some (0, x62.2))))
  else none)
  else none))
  else none)
  else none)
  else
  (if ((xs (iN a3)) &&& 63) = nI 21 then
  (if inB (a3 + 1) q0 = true then
  (if inB (a3 + 2) q0 = true then
  (if inB (a3 + 3) q0 = true then
  (if inB (a3 + 4) q0 = true then
  ((f_S_ends N (xs (iN (a3 + 1))) (xs (iN (a3 + 2))) (xs (iN (a3 + 3))) (xs (iN (a3 + 4))) h).bind (fun x64 =>
  if inB (a3 + 1) q0 = true then
  (if inB (a3 + 2) q0 = true then
  (if inB (a3 + 3) q0 = true then
  (if inB (a3 + 4) q0 = true then
  ((f_M_ends N (xs (iN (a3 + 1))) (xs (iN (a3 + 2))) (xs (iN (a3 + 3))) (xs (iN (a3 + 4))) x64.2).bind (fun x65 =>
  if x64.1 = x65.1 then
  (let v66 : Int32 := a3 + 6
  bk q0 v66 x65.2)
  else
  (some (0, x65.2))))
  else none)
  else none)
  else none)
  else none))
  else none)
  else none)
  else none)
  else none)
  else
  (if ((xs (iN a3)) &&& 63) = nI 22 then
  (if inB (a3 + 1) q0 = true then
  (if inB (a3 + 2) q0 = true then
  (if inB (a3 + 3) q0 = true then
  ((f_S_first N (xs (iN (a3 + 1))) (xs (iN (a3 + 2))) (xs (iN (a3 + 3))) h).bind (fun x67 =>
  if inB (a3 + 1) q0 = true then
  (if inB (a3 + 2) q0 = true then
  (if inB (a3 + 3) q0 = true then
  ((f_M_first N (xs (iN (a3 + 1))) (xs (iN (a3 + 2))) (xs (iN (a3 + 3))) x67.2).bind (fun x68 =>
  if x67.1 = x68.1 then
  (let v69 : Int32 := a3 + 6
  bk q0 v69 x68.2)
  else
  (some (0, x68.2))))
  else none)
  else none)
  else none))
  else none)
  else none)
  else none)
  else
  (if ((xs (iN a3)) &&& 63) = nI 23 then
  (if inB (a3 + 1) q0 = true then
  (if inB (a3 + 2) q0 = true then
  ((f_S_corner N (xs (iN (a3 + 1))) (xs (iN (a3 + 2))) h).bind (fun x70 =>
  if inB (a3 + 1) q0 = true then
  (if inB (a3 + 2) q0 = true then
  ((f_M_corner N (xs (iN (a3 + 1))) (xs (iN (a3 + 2))) x70.2).bind (fun x71 =>
  if x70.1 = x71.1 then
  (let v72 : Int32 := a3 + 6
  bk q0 v72 x71.2)
  else
  (some (0, x71.2))))
  else none)
  else none))
  else none)
  else none)
  else
  (if ((xs (iN a3)) &&& 63) = nI 24 then
  (if inB (a3 + 1) q0 = true then
  (if inB (a3 + 2) q0 = true then
  (if inB (a3 + 3) q0 = true then
  ((f_S_quarrel N (xs (iN (a3 + 1))) (xs (iN (a3 + 2))) (xs (iN (a3 + 3))) h).bind (fun x73 =>
  if inB (a3 + 1) q0 = true then
  (if inB (a3 + 2) q0 = true then
  (if inB (a3 + 3) q0 = true then
  ((f_M_quarrel N (xs (iN (a3 + 1))) (xs (iN (a3 + 2))) (xs (iN (a3 + 3))) x73.2).bind (fun x74 =>
  if x73.1 = x74.1 then
  (let v75 : Int32 := a3 + 6
  bk q0 v75 x74.2)
  else
  (some (0, x74.2))))
  else none)
  else none)
  else none))
  else none)
  else none)
  else none)
  else
  (if ((xs (iN a3)) &&& 63) = nI 25 then
  (if inB (a3 + 1) q0 = true then
  (if inB (a3 + 2) q0 = true then
  (if inB (a3 + 3) q0 = true then
  ((f_S_without N (xs (iN (a3 + 1))) (xs (iN (a3 + 2))) (xs (iN (a3 + 3))) h).bind (fun x76 =>
  if inB (a3 + 1) q0 = true then
  (if inB (a3 + 2) q0 = true then
  (if inB (a3 + 3) q0 = true then
  ((f_M_without N (xs (iN (a3 + 1))) (xs (iN (a3 + 2))) (xs (iN (a3 + 3))) x76.2).bind (fun x77 =>
  if x76.1 = x77.1 then
  (let v78 : Int32 := a3 + 6
  bk q0 v78 x77.2)
  else
  (some (0, x77.2))))
  else none)
  else none)
  else none))
  else none)
  else none)
  else none)
  else
  (if ((xs (iN a3)) &&& 63) = nI 26 then
  (if inB (a3 + 1) q0 = true then
  (if inB (a3 + 2) q0 = true then
  ((f_S_rank N (xs (iN (a3 + 1))) (xs (iN (a3 + 2))) h).bind (fun x79 =>
  if inB (a3 + 1) q0 = true then
  (if inB (a3 + 2) q0 = true then
  ((f_M_rank N (xs (iN (a3 + 1))) (xs (iN (a3 + 2))) x79.2).bind (fun x80 =>
  if x79.1 = x80.1 then
  (let v81 : Int32 := a3 + 6
  bk q0 v81 x80.2)
  else
  (some (0, x80.2))))
  else none)
  else none))
  else none)
  else none)
  else
  (if ((xs (iN a3)) &&& 63) = nI 27 then
  (if inB (a3 + 1) q0 = true then
  (if inB (a3 + 2) q0 = true then
  ((f_S_apart N (xs (iN (a3 + 1))) (xs (iN (a3 + 2))) h).bind (fun x82 =>
  if inB (a3 + 1) q0 = true then
  (if inB (a3 + 2) q0 = true then
  ((f_M_apart N (xs (iN (a3 + 1))) (xs (iN (a3 + 2))) x82.2).bind (fun x83 =>
  if x82.1 = x83.1 then
  (let v84 : Int32 := a3 + 6
  bk q0 v84 x83.2)
  else
  (some (0, x83.2))))
  else none)
  else none))
  else none)
  else none)
  else
  (if ((xs (iN a3)) &&& 63) = nI 28 then
  (if inB (a3 + 1) q0 = true then
  (if inB (a3 + 2) q0 = true then
  (if inB (a3 + 3) q0 = true then
  (if inB (a3 + 4) q0 = true then
  ((f_S_odds N (xs (iN (a3 + 1))) (xs (iN (a3 + 2))) (xs (iN (a3 + 3))) (xs (iN (a3 + 4))) h).bind (fun x85 =>
  if inB (a3 + 1) q0 = true then
  (if inB (a3 + 2) q0 = true then
  (if inB (a3 + 3) q0 = true then
  (if inB (a3 + 4) q0 = true then
  ((f_M_odds N (xs (iN (a3 + 1))) (xs (iN (a3 + 2))) (xs (iN (a3 + 3))) (xs (iN (a3 + 4))) x85.2).bind (fun x86 =>
  if x85.1 = x86.1 then
  (let v87 : Int32 := a3 + 6
  bk q0 v87 x86.2)
  else
  (some (0, x86.2))))
  else none)
  else none)
  else none)
  else none))
  else none)
  else none)
  else none)
  else none)
  else
  (if ((xs (iN a3)) &&& 63) = nI 29 then
  (if inB (a3 + 1) q0 = true then
  (if inB (a3 + 2) q0 = true then
  (if inB (a3 + 3) q0 = true then
  ((f_S_shake N (xs (iN (a3 + 1))) (xs (iN (a3 + 2))) (xs (iN (a3 + 3))) h).bind (fun x88 =>
  if inB (a3 + 1) q0 = true then
  (if inB (a3 + 2) q0 = true then
  (if inB (a3 + 3) q0 = true then
  ((f_M_shake N (xs (iN (a3 + 1))) (xs (iN (a3 + 2))) (xs (iN (a3 + 3))) x88.2).bind (fun x89 =>
  if x88.1 = x89.1 then
  (let v90 : Int32 := a3 + 6
  bk q0 v90 x89.2)
  else
  (some (0, x89.2))))
  else none)
  else none)
  else none))
  else none)
  else none)
  else none)
  else
  (if ((xs (iN a3)) &&& 63) = nI 30 then
  (if inB (a3 + 1) q0 = true then
  (if inB (a3 + 2) q0 = true then
  (if inB (a3 + 3) q0 = true then
  ((f_S_saved N (xs (iN (a3 + 1))) (xs (iN (a3 + 2))) (xs (iN (a3 + 3))) h).bind (fun x91 =>
  if inB (a3 + 1) q0 = true then
  (if inB (a3 + 2) q0 = true then
  (if inB (a3 + 3) q0 = true then
  ((f_M_saved N (xs (iN (a3 + 1))) (xs (iN (a3 + 2))) (xs (iN (a3 + 3))) x91.2).bind (fun x92 =>
  if x91.1 = x92.1 then
  (let v93 : Int32 := a3 + 6
  bk q0 v93 x92.2)
  else
  (some (0, x92.2))))
  else none)
  else none)
  else none))
  else none)
  else none)
  else none)
  else
  (if ((xs (iN a3)) &&& 63) = nI 31 then
  (if inB (a3 + 1) q0 = true then
  (if inB (a3 + 2) q0 = true then
  ((f_S_net N (xs (iN (a3 + 1))) (xs (iN (a3 + 2))) h).bind (fun x94 =>
  if inB (a3 + 1) q0 = true then
  (if inB (a3 + 2) q0 = true then
  ((f_M_net N (xs (iN (a3 + 1))) (xs (iN (a3 + 2))) x94.2).bind (fun x95 =>
  if x94.1 = x95.1 then
  (let v96 : Int32 := a3 + 6
  bk q0 v96 x95.2)
  else
  (some (0, x95.2))))
  else none)
  else none))
  else none)
  else none)
  else
  (if ((xs (iN a3)) &&& 63) = nI 32 then
  (if inB (a3 + 1) q0 = true then
  ((f_S_netTold N (xs (iN (a3 + 1))) h).bind (fun x97 =>
  if inB (a3 + 1) q0 = true then
  ((f_M_netTold N (xs (iN (a3 + 1))) x97.2).bind (fun x98 =>
  if x97.1 = x98.1 then
  (let v99 : Int32 := a3 + 6
  bk q0 v99 x98.2)
  else
  (some (0, x98.2))))
  else none))
  else none)
  else
  (if ((xs (iN a3)) &&& 63) = nI 33 then
  (if inB (a3 + 1) q0 = true then
  (if inB (a3 + 2) q0 = true then
  (if inB (a3 + 3) q0 = true then
  (if inB (a3 + 4) q0 = true then
  ((f_S_few N (xs (iN (a3 + 1))) (xs (iN (a3 + 2))) (xs (iN (a3 + 3))) (xs (iN (a3 + 4))) h).bind (fun x100 =>
  if inB (a3 + 1) q0 = true then
  (if inB (a3 + 2) q0 = true then
  (if inB (a3 + 3) q0 = true then
  (if inB (a3 + 4) q0 = true then
  ((f_M_few N (xs (iN (a3 + 1))) (xs (iN (a3 + 2))) (xs (iN (a3 + 3))) (xs (iN (a3 + 4))) x100.2).bind (fun x101 =>
  if x100.1 = x101.1 then
  (let v102 : Int32 := a3 + 6
  bk q0 v102 x101.2)
  else
  (some (0, x101.2))))
  else none)
  else none)
  else none)
  else none))
  else none)
  else none)
  else none)
  else none)
  else
  (if ((xs (iN a3)) &&& 63) = nI 34 then
  (if inB (a3 + 1) q0 = true then
  ((f_S_fewOf N (xs (iN (a3 + 1))) h).bind (fun x103 =>
  if inB (a3 + 1) q0 = true then
  ((f_M_fewOf N (xs (iN (a3 + 1))) x103.2).bind (fun x104 =>
  if x103.1 = x104.1 then
  (let v105 : Int32 := a3 + 6
  bk q0 v105 x104.2)
  else
  (some (0, x104.2))))
  else none))
  else none)
  else
  (let v106 : Int32 := a3 + 6
  bk q0 v106 h))))))))))))))))))))))))))))))))))))
  else none)
def L_Law_law (N : Nat) (xs : Nat → Int32) : Nat → (Nat → Int32 → MH → Option (Int32 × MH))
  | 0 => fun _ _ _ => none
  | n + 1 => F_Law_law_18 N xs (L_Law_law N xs n)
def f_Law_law (N : Nat) (xs : Nat → Int32) (q0 : Nat) (a3 : Int32) (h : MH) : Option (Int32 × MH) := F_Law_law_18 N xs (L_Law_law N xs N) q0 a3 h
def C_Law_law (N : Nat) (xs : Nat → Int32) : MC := (KDL, false, xs, jsB, (fun j => match Nat.beq j 109 with
    | true => w_S_status (f_S_status N)
    | false => match Nat.beq j 112 with
    | true => w_S_tray (f_S_tray N)
    | false => match Nat.beq j 113 with
    | true => w_S_write (f_S_write N)
    | false => match Nat.beq j 115 with
    | true => w_S_pour (f_S_pour N)
    | false => match Nat.beq j 116 with
    | true => w_S_feed (f_S_feed N)
    | false => match Nat.beq j 117 with
    | true => w_S_land (f_S_land N)
    | false => match Nat.beq j 118 with
    | true => w_S_fault (f_S_fault N)
    | false => match Nat.beq j 119 with
    | true => w_S_many (f_S_many N)
    | false => match Nat.beq j 120 with
    | true => w_S_moves (f_S_moves N)
    | false => match Nat.beq j 121 with
    | true => w_S_row (f_S_row N)
    | false => match Nat.beq j 122 with
    | true => w_S_offset (f_S_offset N)
    | false => match Nat.beq j 123 with
    | true => w_S_asof (f_S_asof N)
    | false => match Nat.beq j 124 with
    | true => w_S_value (f_S_value N)
    | false => match Nat.beq j 125 with
    | true => w_S_line (f_S_line N)
    | false => match Nat.beq j 126 with
    | true => w_S_breaks (f_S_breaks N)
    | false => match Nat.beq j 127 with
    | true => w_S_slow (f_S_slow N)
    | false => match Nat.beq j 128 with
    | true => w_S_smooth (f_S_smooth N)
    | false => match Nat.beq j 129 with
    | true => w_S_slips (f_S_slips N)
    | false => match Nat.beq j 130 with
    | true => w_S_ends (f_S_ends N)
    | false => match Nat.beq j 131 with
    | true => w_S_first (f_S_first N)
    | false => match Nat.beq j 132 with
    | true => w_S_corner (f_S_corner N)
    | false => match Nat.beq j 133 with
    | true => w_S_quarrel (f_S_quarrel N)
    | false => match Nat.beq j 134 with
    | true => w_S_without (f_S_without N)
    | false => match Nat.beq j 135 with
    | true => w_S_rank (f_S_rank N)
    | false => match Nat.beq j 136 with
    | true => w_S_apart (f_S_apart N)
    | false => match Nat.beq j 137 with
    | true => w_S_odds (f_S_odds N)
    | false => match Nat.beq j 138 with
    | true => w_S_shake (f_S_shake N)
    | false => match Nat.beq j 139 with
    | true => w_S_saved (f_S_saved N)
    | false => match Nat.beq j 140 with
    | true => w_S_net (f_S_net N)
    | false => match Nat.beq j 141 with
    | true => w_S_netTold (f_S_netTold N)
    | false => match Nat.beq j 142 with
    | true => w_S_few (f_S_few N)
    | false => match Nat.beq j 143 with
    | true => w_S_fewOf (f_S_fewOf N)
    | false => match Nat.beq j 164 with
    | true => w_M_status (f_M_status N)
    | false => match Nat.beq j 173 with
    | true => w_M_tray (f_M_tray N)
    | false => match Nat.beq j 175 with
    | true => w_M_write (f_M_write N)
    | false => match Nat.beq j 177 with
    | true => w_M_pour (f_M_pour N)
    | false => match Nat.beq j 178 with
    | true => w_M_feed (f_M_feed N)
    | false => match Nat.beq j 203 with
    | true => w_M_land (f_M_land N)
    | false => match Nat.beq j 204 with
    | true => w_M_fault (f_M_fault N)
    | false => match Nat.beq j 207 with
    | true => w_M_many (f_M_many N)
    | false => match Nat.beq j 208 with
    | true => w_M_moves (f_M_moves N)
    | false => match Nat.beq j 212 with
    | true => w_M_row (f_M_row N)
    | false => match Nat.beq j 213 with
    | true => w_M_offset (f_M_offset N)
    | false => match Nat.beq j 214 with
    | true => w_M_asof (f_M_asof N)
    | false => match Nat.beq j 217 with
    | true => w_M_value (f_M_value N)
    | false => match Nat.beq j 222 with
    | true => w_M_line (f_M_line N)
    | false => match Nat.beq j 223 with
    | true => w_M_breaks (f_M_breaks N)
    | false => match Nat.beq j 225 with
    | true => w_M_slow (f_M_slow N)
    | false => match Nat.beq j 226 with
    | true => w_M_smooth (f_M_smooth N)
    | false => match Nat.beq j 236 with
    | true => w_M_slips (f_M_slips N)
    | false => match Nat.beq j 237 with
    | true => w_M_ends (f_M_ends N)
    | false => match Nat.beq j 238 with
    | true => w_M_first (f_M_first N)
    | false => match Nat.beq j 239 with
    | true => w_M_corner (f_M_corner N)
    | false => match Nat.beq j 242 with
    | true => w_M_quarrel (f_M_quarrel N)
    | false => match Nat.beq j 243 with
    | true => w_M_without (f_M_without N)
    | false => match Nat.beq j 244 with
    | true => w_M_odds (f_M_odds N)
    | false => match Nat.beq j 247 with
    | true => w_M_rank (f_M_rank N)
    | false => match Nat.beq j 248 with
    | true => w_M_apart (f_M_apart N)
    | false => match Nat.beq j 249 with
    | true => w_M_shake (f_M_shake N)
    | false => match Nat.beq j 250 with
    | true => w_M_saved (f_M_saved N)
    | false => match Nat.beq j 251 with
    | true => w_M_net (f_M_net N)
    | false => match Nat.beq j 252 with
    | true => w_M_netTold (f_M_netTold N)
    | false => match Nat.beq j 253 with
    | true => w_M_few (f_M_few N)
    | false => match Nat.beq j 254 with
    | true => w_M_fewOf (f_M_fewOf N)
    | false => fun _ _ => none), (fun j => match Nat.beq j 110 with
    | true => w_S_top (f_S_top N)
    | false => match Nat.beq j 111 with
    | true => w_S_bottom (f_S_bottom N)
    | false => match Nat.beq j 114 with
    | true => w_S_read (f_S_read N)
    | false => match Nat.beq j 165 with
    | true => w_M_top (f_M_top N)
    | false => match Nat.beq j 166 with
    | true => w_M_bottom (f_M_bottom N)
    | false => match Nat.beq j 176 with
    | true => w_M_read (f_M_read N)
    | false => fun _ _ => none), (fun _ _ _ => none), (fun _ _ _ => none))
def D_Law_law (N : Nat) (xs : Nat → Int32) (n pc : Nat) (lv : ML) (st : List MV) (h : MH) : Option (Int32 × MH) :=
  match Nat.beq pc 18 with
  | true => (match lk lv 0, lk lv 1, lk lv 2, lk lv 3, st with
    | some (.inr (.inr (7, q0, 0))), some (.inr (.inr (0, 11, 1))), some (.inr (.inr (0, 12, 68))), some (.inl a3), [] => F_Law_law_18 N xs (L_Law_law N xs n) q0 a3 h
    | _, _, _, _, _ => none)
  | false => none
def B_Law_law (N : Nat) (xs : Nat → Int32) (n pc : Nat) (lv : ML) (st : List MV) (h : MH) : Option (Int32 × MH) :=
  match Nat.beq pc 18 with
  | true => (match lk lv 0, lk lv 1, lk lv 2, lk lv 3, st with
    | some (.inr (.inr (7, q0, 0))), some (.inr (.inr (0, 11, 1))), some (.inr (.inr (0, 12, 68))), some (.inl a3), [] => ((L_Law_law N xs n)) q0 a3 h
    | _, _, _, _, _ => none)
  | false => none
set_option maxRecDepth 1000000 in
theorem E_Law_law_18 (N : Nat) (xs : Nat → Int32) (n : Nat) (q0 : Nat) (a3 : Int32) (h : MH) : seg (C_Law_law N xs) 4 1 rI T_Law_law [18] (fun q lv st h => match Nat.ble 19 q with
    | true => D_Law_law N xs n q lv st h
    | false => B_Law_law N xs n q lv st h) 400 true 18 [(0, .inr (.inr (7, q0, 0))), (1, .inr (.inr (0, 11, 1))), (2, .inr (.inr (0, 12, 68))), (3, .inl a3)] [] h = F_Law_law_18 N xs (L_Law_law N xs n) q0 a3 h := (rfl)
theorem hD_Law_law (N : Nat) (xs : Nat → Int32) {r : Int32 × MH} : ∀ n pc lv st h, D_Law_law N xs n pc lv st h = some r → ∃ lv', (∀ q ∈ lv', q ∈ lv) ∧ seg (C_Law_law N xs) 4 1 rI T_Law_law [18] (fun q lv st h => match Nat.ble (pc + 1) q with
    | true => D_Law_law N xs n q lv st h
    | false => B_Law_law N xs n q lv st h) 400 true pc lv' st h = some r := by
  intro n pc lv st h hf
  unfold D_Law_law at hf
  split at hf
  · rename_i hb
    have hb := Nat.eq_of_beq_eq_true hb
    subst hb
    split at hf
    · rename_i y0 y1 e0 e1 e2 e3
      exact ⟨_, (sub_cons e0 (sub_cons e1 (sub_cons e2 (sub_cons e3 sub_nil)))), (E_Law_law_18 N xs n _ _ h).trans hf⟩
    · cases hf
  · skip
    cases hf
theorem hM_Law_law (N : Nat) (xs : Nat → Int32) {r : Int32 × MH} : ∀ n pc lv st h, D_Law_law N xs n pc lv st h = some r → pc < 1524 := by
  intro n pc lv st h hf
  unfold D_Law_law at hf
  split at hf
  · rename_i hb
    rw [Nat.eq_of_beq_eq_true hb]
    decide
  · skip
    cases hf
theorem hB_Law_law (N : Nat) (xs : Nat → Int32) {r : Int32 × MH} : ∀ n pc lv st h, B_Law_law N xs n pc lv st h = some r → ∃ k, n = k + 1 ∧ D_Law_law N xs k pc lv st h = some r := by
  intro n pc lv st h hf
  unfold B_Law_law at hf
  split at hf
  · rename_i hb
    have hb := Nat.eq_of_beq_eq_true hb
    subst hb
    cases n with
    | zero =>
      split at hf
      · cases hf
      · cases hf
    | succ k =>
      refine ⟨k, rfl, ?_⟩
      exact hf
  · skip
    cases hf
