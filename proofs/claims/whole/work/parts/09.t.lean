def T_M_saved : List (List (Option RW)) := [
  [some (.aload_n 0, 1, [0], 0, 0), some (.iload_n 1, 1, [1], 0, 0), some (.invokevirtual 363, 3, [0, 206, 2, 0], 0, 0), none, none, some (.ifCond .eq 19, 3, [24], 0, 0), none, none, some (.iload_n 2, 1, [2], 0, 0), some (.invokestatic 369, 3, [2, 209, 1, 0], 0, 0), none, none, some (.ifCond .eq 12, 3, [24], 0, 0), none, none, some (.iload_n 3, 1, [3], 0, 0), some (.ifCond .lt 8, 3, [24], 0, 0), none, none, some (.iload_n 3, 1, [3], 0, 0), some (.iconst 1, 1, [], 1, 0), some (.if_icmp .le 9, 3, [30], 0, 0), none, none, some (.aload_n 0, 1, [0], 0, 0), some (.iconst 1, 1, [], 1, 0), some (.invokevirtual 342, 3, [0, 168, 2, 0], 0, 0), none, none, some (.ireturn, 1, [], 0, 0), some (.lconst 0, 1, [], 0, 0), some (.lstore 4, 2, [4], 0, 0)],
  [none, some (.iconst 0, 1, [], 0, 0), some (.istore 6, 2, [6], 0, 0), none, some (.iload 6, 2, [6], 0, 0), none, some (.iload_n 2, 1, [2], 0, 0), some (.if_icmp .gt 105, 3, [144], 0, 0), none, none, some (.lload 4, 2, [4], 0, 0), none, some (.aload_n 0, 1, [0], 0, 0), some (.getfield 72, 3, [12, 34, 2, 1, 6, 17], 0, 0), none, none, some (.iload_n 1, 1, [1], 0, 0), some (.iaload, 1, [], 0, 0), some (.i2l, 1, [], 0, 0), some (.iload_n 3, 1, [3], 0, 0), some (.ifCond .ne 12, 3, [64], 0, 0), none, none, some (.aload_n 0, 1, [0], 0, 0), some (.getfield 75, 3, [12, 35, 2, 1, 6, 18], 0, 0), none, none, some (.iload_n 1, 1, [1], 0, 0), some (.iaload, 1, [], 0, 0), some (.goto 9, 3, [70], 0, 0), none, none],
  [some (.aload_n 0, 1, [0], 0, 0), some (.getfield 78, 3, [12, 36, 2, 1, 6, 19], 0, 0), none, none, some (.iload_n 1, 1, [1], 0, 0), some (.iaload, 1, [], 0, 0), some (.i2l, 1, [], 0, 0), some (.lmul, 1, [], 0, 0), some (.ladd, 1, [], 0, 0), some (.lstore 4, 2, [4], 0, 0), none, some (.iconst 0, 1, [], 0, 0), some (.istore 7, 2, [7], 0, 0), none, some (.iload 7, 2, [7], 0, 0), none, some (.aload_n 0, 1, [0], 0, 0), some (.getfield 360, 3, [12, 75, 0], 0, 0), none, none, some (.if_icmp .ge 54, 3, [138], 0, 0), none, none, some (.aload_n 0, 1, [0], 0, 0), some (.getfield 153, 3, [12, 76, 2, 1, 30, 42], 0, 0), none, none, some (.iload 7, 2, [7], 0, 0), none, some (.iaload, 1, [], 0, 0), some (.iload 6, 2, [6], 0, 0), none],
  [some (.if_icmp .ne 36, 3, [132], 0, 0), none, none, some (.aload_n 0, 1, [0], 0, 0), some (.getfield 156, 3, [12, 77, 2, 1, 30, 43], 0, 0), none, none, some (.iload 7, 2, [7], 0, 0), none, some (.iaload, 1, [], 0, 0), some (.iload_n 1, 1, [1], 0, 0), some (.if_icmp .ne 25, 3, [132], 0, 0), none, none, some (.lload 4, 2, [4], 0, 0), none, some (.lload 4, 2, [4], 0, 0), none, some (.ldc2_w 477, 3, [], 0, 10000), none, none, some (.aload_n 0, 1, [0], 0, 0), some (.getfield 159, 3, [12, 78, 2, 1, 30, 44], 0, 0), none, none, some (.iload 7, 2, [7], 0, 0), none, some (.iaload, 1, [], 0, 0), some (.i2l, 1, [], 0, 0), some (.lmul, 1, [], 0, 0), some (.invokestatic 479, 3, [2, 262, 2, 1], 0, 0), none],
  [none, some (.lsub, 1, [], 0, 0), some (.lstore 4, 2, [4], 0, 0), none, some (.iinc 7 1, 3, [7], 1, 0), none, none, some (.goto (-57), 3, [78], 0, 0), none, none, some (.iinc 6 1, 3, [6], 1, 0), none, none, some (.goto (-105), 3, [36], 0, 0), none, none, some (.aload_n 0, 1, [0], 0, 0), some (.lload 4, 2, [4], 0, 0), none, some (.ldc2_w 477, 3, [], 0, 10000), none, none, some (.invokevirtual 417, 3, [0, 170, 3, 0], 0, 0), none, none, some (.ireturn, 1, [], 0, 0)]]
def F_M_saved_78 (N : Nat) (bk : (Int32 → Int32 → Int32 → Int64 → Int32 → MH → Option (Int32 × MH)) × (Int32 → Int32 → Int32 → Int64 → Int32 → Int32 → MH → Option (Int32 × MH))) (a1 : Int32) (a2 : Int32) (a3 : Int32) (a4 : Int64) (a6 : Int32) (a7 : Int32) (h : MH) : Option (Int32 × MH) :=
  if (gI h 68 75) ≤ a7 then
  (let v10 : Int32 := a6 + 1
  (bk.1) a1 a2 a3 a4 v10 h)
  else
  (if inB a7 30 = true then
  (if (gI h 110 (iN a7)) = a6 then
  (if inB a7 30 = true then
  (if (gI h 111 (iN a7)) = a1 then
  (if inB a7 30 = true then
  ((f_Math_min_JJ N a4 (10000 * (((gI h 112 (iN a7))).toInt64)) h).bind (fun x11 =>
  let v12 : Int64 := a4 - x11.1
  let v13 : Int32 := a7 + 1
  (bk.2) a1 a2 a3 v12 a6 v13 x11.2))
  else none)
  else
  (let v14 : Int32 := a7 + 1
  (bk.2) a1 a2 a3 a4 a6 v14 h))
  else none)
  else
  (let v15 : Int32 := a7 + 1
  (bk.2) a1 a2 a3 a4 a6 v15 h))
  else none)
def F_M_saved_36 (N : Nat) (bk : (Int32 → Int32 → Int32 → Int64 → Int32 → MH → Option (Int32 × MH)) × (Int32 → Int32 → Int32 → Int64 → Int32 → Int32 → MH → Option (Int32 × MH))) (a1 : Int32) (a2 : Int32) (a3 : Int32) (a4 : Int64) (a6 : Int32) (h : MH) : Option (Int32 × MH) :=
  if a2 < a6 then
  ((f_M_fraction N a4 10000 h).bind (fun x7 =>
  some (x7.1, x7.2)))
  else
  (if inB a1 6 = true then
  (if a3 = 0 then
  (if inB a1 6 = true then
  (let v8 : Int64 := a4 + ((((gI h 85 (iN a1))).toInt64) * (((gI h 86 (iN a1))).toInt64))
  F_M_saved_78 N bk a1 a2 a3 v8 a6 0 h)
  else none)
  else
  (if inB a1 6 = true then
  (let v9 : Int64 := a4 + ((((gI h 85 (iN a1))).toInt64) * (((gI h 87 (iN a1))).toInt64))
  F_M_saved_78 N bk a1 a2 a3 v9 a6 0 h)
  else none))
  else none)
def F_M_saved_0 (N : Nat) (bk : (Int32 → Int32 → Int32 → Int64 → Int32 → MH → Option (Int32 × MH)) × (Int32 → Int32 → Int32 → Int64 → Int32 → Int32 → MH → Option (Int32 × MH))) (a1 : Int32) (a2 : Int32) (a3 : Int32) (h : MH) : Option (Int32 × MH) :=
  (f_M_isCell N a1 h).bind (fun x1 =>
  if x1.1 = 0 then
  ((f_M_refuse N 1 x1.2).bind (fun x2 =>
  some (x2.1, x2.2)))
  else
  ((f_M_isYear N a2 x1.2).bind (fun x3 =>
  if x3.1 = 0 then
  ((f_M_refuse N 1 x3.2).bind (fun x4 =>
  some (x4.1, x4.2)))
  else
  (if a3 < 0 then
  ((f_M_refuse N 1 x3.2).bind (fun x5 =>
  some (x5.1, x5.2)))
  else
  (if a3 ≤ 1 then
  (F_M_saved_36 N bk a1 a2 a3 0 0 x3.2)
  else
  ((f_M_refuse N 1 x3.2).bind (fun x6 =>
  some (x6.1, x6.2))))))))
def L_M_saved (N : Nat) : Nat → ((Int32 → Int32 → Int32 → Int64 → Int32 → MH → Option (Int32 × MH)) × (Int32 → Int32 → Int32 → Int64 → Int32 → Int32 → MH → Option (Int32 × MH)))
  | 0 => (fun _ _ _ _ _ _ => none, fun _ _ _ _ _ _ _ => none)
  | n + 1 => (F_M_saved_36 N (L_M_saved N n), F_M_saved_78 N (L_M_saved N n))
def f_M_saved (N : Nat) (a1 : Int32) (a2 : Int32) (a3 : Int32) (h : MH) : Option (Int32 × MH) := F_M_saved_0 N (L_M_saved N N) a1 a2 a3 h
def C_M_saved (N : Nat) : MC := (KDL, false, (fun _ => 0), jsB, (fun j => match Nat.beq j 168 with
    | true => w_M_refuse (f_M_refuse N)
    | false => match Nat.beq j 170 with
    | true => w_M_fraction (f_M_fraction N)
    | false => match Nat.beq j 206 with
    | true => w_M_isCell (f_M_isCell N)
    | false => match Nat.beq j 209 with
    | true => w_M_isYear (f_M_isYear N)
    | false => fun _ _ => none), (fun j => match Nat.beq j 262 with
    | true => w_Math_min_JJ (f_Math_min_JJ N)
    | false => fun _ _ => none), (fun _ _ _ => none), (fun _ _ _ => none))
def D_M_saved (N : Nat) (n pc : Nat) (lv : ML) (st : List MV) (h : MH) : Option (Int32 × MH) :=
  match Nat.beq pc 0 with
  | true => (match lk lv 0, lk lv 1, lk lv 2, lk lv 3, st with
    | some (.inr (.inr (0, 12, 68))), some (.inl a1), some (.inl a2), some (.inl a3), [] => F_M_saved_0 N (L_M_saved N n) a1 a2 a3 h
    | _, _, _, _, _ => none)
  | false => match Nat.beq pc 36 with
  | true => (match lk lv 0, lk lv 1, lk lv 2, lk lv 3, lk lv 4, lk lv 6, st with
    | some (.inr (.inr (0, 12, 68))), some (.inl a1), some (.inl a2), some (.inl a3), some (.inr (.inl a4)), some (.inl a6), [] => F_M_saved_36 N (L_M_saved N n) a1 a2 a3 a4 a6 h
    | _, _, _, _, _, _, _ => none)
  | false => match Nat.beq pc 78 with
  | true => (match lk lv 0, lk lv 1, lk lv 2, lk lv 3, lk lv 4, lk lv 6, lk lv 7, st with
    | some (.inr (.inr (0, 12, 68))), some (.inl a1), some (.inl a2), some (.inl a3), some (.inr (.inl a4)), some (.inl a6), some (.inl a7), [] => F_M_saved_78 N (L_M_saved N n) a1 a2 a3 a4 a6 a7 h
    | _, _, _, _, _, _, _, _ => none)
  | false => none
def B_M_saved (N : Nat) (n pc : Nat) (lv : ML) (st : List MV) (h : MH) : Option (Int32 × MH) :=
  match Nat.beq pc 36 with
  | true => (match lk lv 0, lk lv 1, lk lv 2, lk lv 3, lk lv 4, lk lv 6, st with
    | some (.inr (.inr (0, 12, 68))), some (.inl a1), some (.inl a2), some (.inl a3), some (.inr (.inl a4)), some (.inl a6), [] => ((L_M_saved N n).1) a1 a2 a3 a4 a6 h
    | _, _, _, _, _, _, _ => none)
  | false => match Nat.beq pc 78 with
  | true => (match lk lv 0, lk lv 1, lk lv 2, lk lv 3, lk lv 4, lk lv 6, lk lv 7, st with
    | some (.inr (.inr (0, 12, 68))), some (.inl a1), some (.inl a2), some (.inl a3), some (.inr (.inl a4)), some (.inl a6), some (.inl a7), [] => ((L_M_saved N n).2) a1 a2 a3 a4 a6 a7 h
    | _, _, _, _, _, _, _, _ => none)
  | false => none
set_option maxRecDepth 1000000 in
theorem E_M_saved_0 (N : Nat) (n : Nat) (a1 : Int32) (a2 : Int32) (a3 : Int32) (h : MH) : seg (C_M_saved N) 8 0 rI T_M_saved [0, 36, 78] (fun q lv st h => match Nat.ble 1 q with
    | true => D_M_saved N n q lv st h
    | false => B_M_saved N n q lv st h) 400 true 0 [(0, .inr (.inr (0, 12, 68))), (1, .inl a1), (2, .inl a2), (3, .inl a3)] [] h = F_M_saved_0 N (L_M_saved N n) a1 a2 a3 h := (rfl)
set_option maxRecDepth 1000000 in
theorem E_M_saved_36 (N : Nat) (n : Nat) (a1 : Int32) (a2 : Int32) (a3 : Int32) (a4 : Int64) (a6 : Int32) (h : MH) : seg (C_M_saved N) 8 0 rI T_M_saved [0, 36, 78] (fun q lv st h => match Nat.ble 37 q with
    | true => D_M_saved N n q lv st h
    | false => B_M_saved N n q lv st h) 400 true 36 [(0, .inr (.inr (0, 12, 68))), (1, .inl a1), (2, .inl a2), (3, .inl a3), (4, .inr (.inl a4)), (6, .inl a6)] [] h = F_M_saved_36 N (L_M_saved N n) a1 a2 a3 a4 a6 h := (rfl)
set_option maxRecDepth 1000000 in
theorem E_M_saved_78 (N : Nat) (n : Nat) (a1 : Int32) (a2 : Int32) (a3 : Int32) (a4 : Int64) (a6 : Int32) (a7 : Int32) (h : MH) : seg (C_M_saved N) 8 0 rI T_M_saved [0, 36, 78] (fun q lv st h => match Nat.ble 79 q with
    | true => D_M_saved N n q lv st h
    | false => B_M_saved N n q lv st h) 400 true 78 [(0, .inr (.inr (0, 12, 68))), (1, .inl a1), (2, .inl a2), (3, .inl a3), (4, .inr (.inl a4)), (6, .inl a6), (7, .inl a7)] [] h = F_M_saved_78 N (L_M_saved N n) a1 a2 a3 a4 a6 a7 h := (rfl)
def T_M_net : List (List (Option RW)) := [
  [some (.iload_n 1, 1, [1], 0, 0), some (.invokestatic 184, 3, [2, 171, 1, 0], 0, 0), none, none, some (.ifCond .eq 14, 3, [18], 0, 0), none, none, some (.iload_n 2, 1, [2], 0, 0), some (.ifCond .lt 10, 3, [18], 0, 0), none, none, some (.iload_n 2, 1, [2], 0, 0), some (.sipush 10000, 3, [], 10000, 0), none, none, some (.if_icmp .le 9, 3, [24], 0, 0), none, none, some (.aload_n 0, 1, [0], 0, 0), some (.iconst 1, 1, [], 1, 0), some (.invokevirtual 342, 3, [0, 168, 2, 0], 0, 0), none, none, some (.ireturn, 1, [], 0, 0), some (.aload_n 0, 1, [0], 0, 0), some (.getfield 17, 3, [12, 4, 2, 1, 4, 2], 0, 0), none, none, some (.iload_n 1, 1, [1], 0, 0), some (.iaload, 1, [], 0, 0), some (.iconst (-1), 1, [], (-1), 0), some (.if_icmp .ne 9, 3, [40], 0, 0)],
  [none, none, some (.aload_n 0, 1, [0], 0, 0), some (.iconst 2, 1, [], 2, 0), some (.invokevirtual 342, 3, [0, 168, 2, 0], 0, 0), none, none, some (.ireturn, 1, [], 0, 0), some (.aload_n 0, 1, [0], 0, 0), some (.getfield 17, 3, [12, 4, 2, 1, 4, 2], 0, 0), none, none, some (.iload_n 1, 1, [1], 0, 0), some (.iaload, 1, [], 0, 0), some (.aload_n 0, 1, [0], 0, 0), some (.getfield 351, 3, [12, 33, 0], 0, 0), none, none, some (.if_icmp .ge 9, 3, [59], 0, 0), none, none, some (.aload_n 0, 1, [0], 0, 0), some (.iconst 3, 1, [], 3, 0), some (.invokevirtual 342, 3, [0, 168, 2, 0], 0, 0), none, none, some (.ireturn, 1, [], 0, 0), some (.iconst 0, 1, [], 0, 0), some (.istore_n 3, 1, [3], 0, 0), some (.iload_n 3, 1, [3], 0, 0), some (.aload_n 0, 1, [0], 0, 0), some (.getfield 351, 3, [12, 33, 0], 0, 0)],
  [none, none, some (.if_icmp .ge 49, 3, [115], 0, 0), none, none, some (.aload_n 0, 1, [0], 0, 0), some (.getfield 20, 3, [12, 5, 2, 2, 240, 3], 0, 0), none, none, some (.bipush 60, 2, [], 60, 0), none, some (.iload_n 1, 1, [1], 0, 0), some (.imul, 1, [], 0, 0), some (.iload_n 3, 1, [3], 0, 0), some (.iadd, 1, [], 0, 0), some (.laload, 1, [], 0, 0), some (.lconst 0, 1, [], 0, 0), some (.lcmp, 1, [], 0, 0), some (.ifCond .lt 21, 3, [103], 0, 0), none, none, some (.aload_n 0, 1, [0], 0, 0), some (.getfield 20, 3, [12, 5, 2, 2, 240, 3], 0, 0), none, none, some (.bipush 60, 2, [], 60, 0), none, some (.iload_n 1, 1, [1], 0, 0), some (.imul, 1, [], 0, 0), some (.iload_n 3, 1, [3], 0, 0), some (.iadd, 1, [], 0, 0), some (.laload, 1, [], 0, 0)],
  [some (.ldc2_w 482, 3, [], 0, 1000), none, none, some (.lcmp, 1, [], 0, 0), some (.ifCond .le 9, 3, [109], 0, 0), none, none, some (.aload_n 0, 1, [0], 0, 0), some (.iconst 1, 1, [], 1, 0), some (.invokevirtual 342, 3, [0, 168, 2, 0], 0, 0), none, none, some (.ireturn, 1, [], 0, 0), some (.iinc 3 1, 3, [3], 1, 0), none, none, some (.goto (-51), 3, [61], 0, 0), none, none, some (.iconst 0, 1, [], 0, 0), some (.istore_n 3, 1, [3], 0, 0), some (.iconst 0, 1, [], 0, 0), some (.istore 4, 2, [4], 0, 0), none, some (.iload 4, 2, [4], 0, 0), none, some (.aload_n 0, 1, [0], 0, 0), some (.getfield 351, 3, [12, 33, 0], 0, 0), none, none, some (.if_icmp .ge 48, 3, [174], 0, 0), none],
  [none, some (.iconst 0, 1, [], 0, 0), some (.istore 5, 2, [5], 0, 0), none, some (.iload 5, 2, [5], 0, 0), none, some (.bipush 20, 2, [], 20, 0), none, some (.if_icmp .ge 32, 3, [168], 0, 0), none, none, some (.iload_n 3, 1, [3], 0, 0), some (.aload_n 0, 1, [0], 0, 0), some (.iload 4, 2, [4], 0, 0), none, some (.iload 5, 2, [5], 0, 0), none, some (.invokevirtual 381, 3, [0, 215, 3, 0], 0, 0), none, none, some (.iconst (-1), 1, [], (-1), 0), some (.if_icmp .eq 10, 3, [159], 0, 0), none, none, some (.iconst 1, 1, [], 1, 0), some (.iload 4, 2, [4], 0, 0), none, some (.ishl, 1, [], 0, 0), some (.goto 4, 3, [160], 0, 0), none, none, some (.iconst 0, 1, [], 0, 0)],
  [some (.ior, 1, [], 0, 0), some (.istore_n 3, 1, [3], 0, 0), some (.iinc 5 1, 3, [5], 1, 0), none, none, some (.goto (-33), 3, [132], 0, 0), none, none, some (.iinc 4 1, 3, [4], 1, 0), none, none, some (.goto (-51), 3, [120], 0, 0), none, none, some (.iconst (-1), 1, [], (-1), 0), some (.istore 4, 2, [4], 0, 0), none, some (.iconst (-1), 1, [], (-1), 0), some (.istore 5, 2, [5], 0, 0), none, some (.iconst 0, 1, [], 0, 0), some (.istore 6, 2, [6], 0, 0), none, some (.iconst 0, 1, [], 0, 0), some (.istore 7, 2, [7], 0, 0), none, some (.iload 7, 2, [7], 0, 0), none, some (.iconst 1, 1, [], 1, 0), some (.aload_n 0, 1, [0], 0, 0), some (.getfield 351, 3, [12, 33, 0], 0, 0), none],
  [none, some (.ishl, 1, [], 0, 0), some (.if_icmp .ge 130, 3, [324], 0, 0), none, none, some (.iload 7, 2, [7], 0, 0), none, some (.iload_n 3, 1, [3], 0, 0), some (.iand, 1, [], 0, 0), some (.ifCond .eq 6, 3, [207], 0, 0), none, none, some (.goto 114, 3, [318], 0, 0), none, none, some (.iconst 0, 1, [], 0, 0), some (.istore 8, 2, [8], 0, 0), none, some (.iconst 0, 1, [], 0, 0), some (.istore 9, 2, [9], 0, 0), none, some (.iload 9, 2, [9], 0, 0), none, some (.aload_n 0, 1, [0], 0, 0), some (.getfield 351, 3, [12, 33, 0], 0, 0), none, none, some (.if_icmp .ge 42, 3, [261], 0, 0), none, none, some (.iload 8, 2, [8], 0, 0), none],
  [some (.iload 7, 2, [7], 0, 0), none, some (.iload 9, 2, [9], 0, 0), none, some (.ishr, 1, [], 0, 0), some (.iconst 1, 1, [], 1, 0), some (.iand, 1, [], 0, 0), some (.iconst 1, 1, [], 1, 0), some (.if_icmp .ne 19, 3, [251], 0, 0), none, none, some (.aload_n 0, 1, [0], 0, 0), some (.getfield 20, 3, [12, 5, 2, 2, 240, 3], 0, 0), none, none, some (.bipush 60, 2, [], 60, 0), none, some (.iload_n 1, 1, [1], 0, 0), some (.imul, 1, [], 0, 0), some (.iload 9, 2, [9], 0, 0), none, some (.iadd, 1, [], 0, 0), some (.laload, 1, [], 0, 0), some (.l2i, 1, [], 0, 0), some (.goto 4, 3, [252], 0, 0), none, none, some (.iconst 0, 1, [], 0, 0), some (.iadd, 1, [], 0, 0), some (.istore 8, 2, [8], 0, 0), none, some (.iinc 9 1, 3, [9], 1, 0)],
  [none, none, some (.goto (-45), 3, [213], 0, 0), none, none, some (.iload 8, 2, [8], 0, 0), none, some (.iload_n 2, 1, [2], 0, 0), some (.if_icmp .le 6, 3, [270], 0, 0), none, none, some (.goto 51, 3, [318], 0, 0), none, none, some (.aload_n 0, 1, [0], 0, 0), some (.iload_n 3, 1, [3], 0, 0), some (.iload 7, 2, [7], 0, 0), none, some (.ior, 1, [], 0, 0), some (.bipush 63, 2, [], 63, 0), none, some (.invokevirtual 474, 3, [0, 245, 3, 0], 0, 0), none, none, some (.istore 9, 2, [9], 0, 0), none, some (.iload 9, 2, [9], 0, 0), none, some (.iload 5, 2, [5], 0, 0), none, some (.if_icmp .lt 32, 3, [318], 0, 0), none],
  [none, some (.iload 9, 2, [9], 0, 0), none, some (.iload 5, 2, [5], 0, 0), none, some (.if_icmp .ne 13, 3, [306], 0, 0), none, none, some (.iload 8, 2, [8], 0, 0), none, some (.iload 6, 2, [6], 0, 0), none, some (.if_icmp .lt 6, 3, [306], 0, 0), none, none, some (.goto 15, 3, [318], 0, 0), none, none, some (.iload 7, 2, [7], 0, 0), none, some (.istore 4, 2, [4], 0, 0), none, some (.iload 9, 2, [9], 0, 0), none, some (.istore 5, 2, [5], 0, 0), none, some (.iload 8, 2, [8], 0, 0), none, some (.istore 6, 2, [6], 0, 0), none, some (.iinc 7 1, 3, [7], 1, 0), none],
  [none, some (.goto (-135), 3, [186], 0, 0), none, none, some (.aload_n 0, 1, [0], 0, 0), some (.iload 4, 2, [4], 0, 0), none, some (.putfield 162, 3, [12, 79, 0], 0, 0), none, none, some (.aload_n 0, 1, [0], 0, 0), some (.iload 6, 2, [6], 0, 0), none, some (.putfield 484, 3, [12, 80, 0], 0, 0), none, none, some (.aload_n 0, 1, [0], 0, 0), some (.iload 5, 2, [5], 0, 0), none, some (.invokevirtual 180, 3, [0, 169, 2, 0], 0, 0), none, none, some (.ireturn, 1, [], 0, 0)]]
def F_M_net_306 (N : Nat) (bk : (Int32 → Int32 → Int32 → MH → Option (Int32 × MH)) × (Int32 → Int32 → Int32 → Int32 → MH → Option (Int32 × MH)) × (Int32 → Int32 → Int32 → Int32 → Int32 → MH → Option (Int32 × MH)) × (Int32 → Int32 → Int32 → Int32 → Int32 → Int32 → Int32 → MH → Option (Int32 × MH)) × (Int32 → Int32 → Int32 → Int32 → Int32 → Int32 → Int32 → Int32 → Int32 → MH → Option (Int32 × MH))) (a1 : Int32) (a2 : Int32) (a3 : Int32) (a7 : Int32) (a8 : Int32) (a9 : Int32) (h : MH) : Option (Int32 × MH) :=
  let v28 : Int32 := a7 + 1
  (bk.2.2.2.1) a1 a2 a3 a7 a9 a8 v28 h
def F_M_net_213 (N : Nat) (bk : (Int32 → Int32 → Int32 → MH → Option (Int32 × MH)) × (Int32 → Int32 → Int32 → Int32 → MH → Option (Int32 × MH)) × (Int32 → Int32 → Int32 → Int32 → Int32 → MH → Option (Int32 × MH)) × (Int32 → Int32 → Int32 → Int32 → Int32 → Int32 → Int32 → MH → Option (Int32 × MH)) × (Int32 → Int32 → Int32 → Int32 → Int32 → Int32 → Int32 → Int32 → Int32 → MH → Option (Int32 × MH))) (a1 : Int32) (a2 : Int32) (a3 : Int32) (a4 : Int32) (a5 : Int32) (a6 : Int32) (a7 : Int32) (a8 : Int32) (a9 : Int32) (h : MH) : Option (Int32 × MH) :=
  if (gI h 68 33) ≤ a9 then
  (if a8 ≤ a2 then
  ((f_M_rankOf N (a3 ||| a7) 63 h).bind (fun x20 =>
  if x20.1 < a5 then
  (let v21 : Int32 := a7 + 1
  (bk.2.2.2.1) a1 a2 a3 a4 a5 a6 v21 x20.2)
  else
  (if x20.1 = a5 then
  (if a8 < a6 then
  (F_M_net_306 N bk a1 a2 a3 a7 a8 x20.1 x20.2)
  else
  (let v22 : Int32 := a7 + 1
  (bk.2.2.2.1) a1 a2 a3 a4 a5 a6 v22 x20.2))
  else
  (F_M_net_306 N bk a1 a2 a3 a7 a8 x20.1 x20.2))))
  else
  (let v23 : Int32 := a7 + 1
  (bk.2.2.2.1) a1 a2 a3 a4 a5 a6 v23 h))
  else
  (if ((a7 >>> (a9 &&& 31)) &&& 1) = 1 then
  (if inB ((60 * a1) + a9) 240 = true then
  (let v24 : Int32 := a8 + (Int64.toInt32 (gJ h 71 (iN ((60 * a1) + a9))))
  let v25 : Int32 := a9 + 1
  (bk.2.2.2.2) a1 a2 a3 a4 a5 a6 a7 v24 v25 h)
  else none)
  else
  (let v26 : Int32 := a8 + 0
  let v27 : Int32 := a9 + 1
  (bk.2.2.2.2) a1 a2 a3 a4 a5 a6 a7 v26 v27 h))
def F_M_net_186 (N : Nat) (bk : (Int32 → Int32 → Int32 → MH → Option (Int32 × MH)) × (Int32 → Int32 → Int32 → Int32 → MH → Option (Int32 × MH)) × (Int32 → Int32 → Int32 → Int32 → Int32 → MH → Option (Int32 × MH)) × (Int32 → Int32 → Int32 → Int32 → Int32 → Int32 → Int32 → MH → Option (Int32 × MH)) × (Int32 → Int32 → Int32 → Int32 → Int32 → Int32 → Int32 → Int32 → Int32 → MH → Option (Int32 × MH))) (a1 : Int32) (a2 : Int32) (a3 : Int32) (a4 : Int32) (a5 : Int32) (a6 : Int32) (a7 : Int32) (h : MH) : Option (Int32 × MH) :=
  if ((1 : Int32) <<< ((gI h 68 33) &&& 31)) ≤ a7 then
  (let h16 : MH := sI h 68 79 a4
  let h17 : MH := sI h16 68 80 a6
  (f_M_gives N a5 h17).bind (fun x18 =>
  some (x18.1, x18.2)))
  else
  (if (a7 &&& a3) = 0 then
  (F_M_net_213 N bk a1 a2 a3 a4 a5 a6 a7 0 0 h)
  else
  (let v19 : Int32 := a7 + 1
  (bk.2.2.2.1) a1 a2 a3 a4 a5 a6 v19 h))
def F_M_net_132 (N : Nat) (bk : (Int32 → Int32 → Int32 → MH → Option (Int32 × MH)) × (Int32 → Int32 → Int32 → Int32 → MH → Option (Int32 × MH)) × (Int32 → Int32 → Int32 → Int32 → Int32 → MH → Option (Int32 × MH)) × (Int32 → Int32 → Int32 → Int32 → Int32 → Int32 → Int32 → MH → Option (Int32 × MH)) × (Int32 → Int32 → Int32 → Int32 → Int32 → Int32 → Int32 → Int32 → Int32 → MH → Option (Int32 × MH))) (a1 : Int32) (a2 : Int32) (a3 : Int32) (a4 : Int32) (a5 : Int32) (h : MH) : Option (Int32 × MH) :=
  if 20 ≤ a5 then
  (let v10 : Int32 := a4 + 1
  (bk.2.1) a1 a2 a3 v10 h)
  else
  ((f_M_rowOf N a4 a5 h).bind (fun x11 =>
  if x11.1 = ((-1)) then
  (let v12 : Int32 := a3 ||| 0
  let v13 : Int32 := a5 + 1
  (bk.2.2.1) a1 a2 v12 a4 v13 x11.2)
  else
  (let v14 : Int32 := a3 ||| ((1 : Int32) <<< (a4 &&& 31))
  let v15 : Int32 := a5 + 1
  (bk.2.2.1) a1 a2 v14 a4 v15 x11.2)))
def F_M_net_120 (N : Nat) (bk : (Int32 → Int32 → Int32 → MH → Option (Int32 × MH)) × (Int32 → Int32 → Int32 → Int32 → MH → Option (Int32 × MH)) × (Int32 → Int32 → Int32 → Int32 → Int32 → MH → Option (Int32 × MH)) × (Int32 → Int32 → Int32 → Int32 → Int32 → Int32 → Int32 → MH → Option (Int32 × MH)) × (Int32 → Int32 → Int32 → Int32 → Int32 → Int32 → Int32 → Int32 → Int32 → MH → Option (Int32 × MH))) (a1 : Int32) (a2 : Int32) (a3 : Int32) (a4 : Int32) (h : MH) : Option (Int32 × MH) :=
  if (gI h 68 33) ≤ a4 then
  (F_M_net_186 N bk a1 a2 a3 ((-1)) ((-1)) 0 0 h)
  else
  (F_M_net_132 N bk a1 a2 a3 a4 0 h)
def F_M_net_61 (N : Nat) (bk : (Int32 → Int32 → Int32 → MH → Option (Int32 × MH)) × (Int32 → Int32 → Int32 → Int32 → MH → Option (Int32 × MH)) × (Int32 → Int32 → Int32 → Int32 → Int32 → MH → Option (Int32 × MH)) × (Int32 → Int32 → Int32 → Int32 → Int32 → Int32 → Int32 → MH → Option (Int32 × MH)) × (Int32 → Int32 → Int32 → Int32 → Int32 → Int32 → Int32 → Int32 → Int32 → MH → Option (Int32 × MH))) (a1 : Int32) (a2 : Int32) (a3 : Int32) (h : MH) : Option (Int32 × MH) :=
  if (gI h 68 33) ≤ a3 then
  (F_M_net_120 N bk a1 a2 0 0 h)
  else
  (if inB ((60 * a1) + a3) 240 = true then
  (if (lg_cmp (gJ h 71 (iN ((60 * a1) + a3))) 0) < 0 then
  ((f_M_refuse N 1 h).bind (fun x7 =>
  some (x7.1, x7.2)))
  else
  (if inB ((60 * a1) + a3) 240 = true then
  (if (lg_cmp (gJ h 71 (iN ((60 * a1) + a3))) 1000) ≤ 0 then
  (let v8 : Int32 := a3 + 1
  (bk.1) a1 a2 v8 h)
  else
  ((f_M_refuse N 1 h).bind (fun x9 =>
  some (x9.1, x9.2))))
  else none))
  else none)
def F_M_net_0 (N : Nat) (bk : (Int32 → Int32 → Int32 → MH → Option (Int32 × MH)) × (Int32 → Int32 → Int32 → Int32 → MH → Option (Int32 × MH)) × (Int32 → Int32 → Int32 → Int32 → Int32 → MH → Option (Int32 × MH)) × (Int32 → Int32 → Int32 → Int32 → Int32 → Int32 → Int32 → MH → Option (Int32 × MH)) × (Int32 → Int32 → Int32 → Int32 → Int32 → Int32 → Int32 → Int32 → Int32 → MH → Option (Int32 × MH))) (a1 : Int32) (a2 : Int32) (h : MH) : Option (Int32 × MH) :=
  (f_M_isTray N a1 h).bind (fun x1 =>
  if x1.1 = 0 then
  ((f_M_refuse N 1 x1.2).bind (fun x2 =>
  some (x2.1, x2.2)))
  else
  (if a2 < 0 then
  ((f_M_refuse N 1 x1.2).bind (fun x3 =>
  some (x3.1, x3.2)))
  else
  (if a2 ≤ 10000 then
  (if inB a1 4 = true then
  (if (gI x1.2 70 (iN a1)) = ((-1)) then
  ((f_M_refuse N 2 x1.2).bind (fun x4 =>
  some (x4.1, x4.2)))
  else
  (if inB a1 4 = true then
  (if (gI x1.2 68 33) ≤ (gI x1.2 70 (iN a1)) then
  (F_M_net_61 N bk a1 a2 0 x1.2)
  else
  ((f_M_refuse N 3 x1.2).bind (fun x5 =>
  some (x5.1, x5.2))))
  else none))
  else none)
  else
  ((f_M_refuse N 1 x1.2).bind (fun x6 =>
  some (x6.1, x6.2))))))
def L_M_net (N : Nat) : Nat → ((Int32 → Int32 → Int32 → MH → Option (Int32 × MH)) × (Int32 → Int32 → Int32 → Int32 → MH → Option (Int32 × MH)) × (Int32 → Int32 → Int32 → Int32 → Int32 → MH → Option (Int32 × MH)) × (Int32 → Int32 → Int32 → Int32 → Int32 → Int32 → Int32 → MH → Option (Int32 × MH)) × (Int32 → Int32 → Int32 → Int32 → Int32 → Int32 → Int32 → Int32 → Int32 → MH → Option (Int32 × MH)))
  | 0 => (fun _ _ _ _ => none, fun _ _ _ _ _ => none, fun _ _ _ _ _ _ => none, fun _ _ _ _ _ _ _ _ => none, fun _ _ _ _ _ _ _ _ _ _ => none)
  | n + 1 => (F_M_net_61 N (L_M_net N n), F_M_net_120 N (L_M_net N n), F_M_net_132 N (L_M_net N n), F_M_net_186 N (L_M_net N n), F_M_net_213 N (L_M_net N n))
def f_M_net (N : Nat) (a1 : Int32) (a2 : Int32) (h : MH) : Option (Int32 × MH) := F_M_net_0 N (L_M_net N N) a1 a2 h
def C_M_net (N : Nat) : MC := (KDL, false, (fun _ => 0), jsB, (fun j => match Nat.beq j 168 with
    | true => w_M_refuse (f_M_refuse N)
    | false => match Nat.beq j 169 with
    | true => w_M_gives (f_M_gives N)
    | false => match Nat.beq j 171 with
    | true => w_M_isTray (f_M_isTray N)
    | false => match Nat.beq j 215 with
    | true => w_M_rowOf (f_M_rowOf N)
    | false => match Nat.beq j 245 with
    | true => w_M_rankOf (f_M_rankOf N)
    | false => fun _ _ => none), (fun _ _ _ => none), (fun _ _ _ => none), (fun _ _ _ => none))
def D_M_net (N : Nat) (n pc : Nat) (lv : ML) (st : List MV) (h : MH) : Option (Int32 × MH) :=
  match Nat.beq pc 0 with
  | true => (match lk lv 0, lk lv 1, lk lv 2, st with
    | some (.inr (.inr (0, 12, 68))), some (.inl a1), some (.inl a2), [] => F_M_net_0 N (L_M_net N n) a1 a2 h
    | _, _, _, _ => none)
  | false => match Nat.beq pc 61 with
  | true => (match lk lv 0, lk lv 1, lk lv 2, lk lv 3, st with
    | some (.inr (.inr (0, 12, 68))), some (.inl a1), some (.inl a2), some (.inl a3), [] => F_M_net_61 N (L_M_net N n) a1 a2 a3 h
    | _, _, _, _, _ => none)
  | false => match Nat.beq pc 120 with
  | true => (match lk lv 0, lk lv 1, lk lv 2, lk lv 3, lk lv 4, st with
    | some (.inr (.inr (0, 12, 68))), some (.inl a1), some (.inl a2), some (.inl a3), some (.inl a4), [] => F_M_net_120 N (L_M_net N n) a1 a2 a3 a4 h
    | _, _, _, _, _, _ => none)
  | false => match Nat.beq pc 132 with
  | true => (match lk lv 0, lk lv 1, lk lv 2, lk lv 3, lk lv 4, lk lv 5, st with
    | some (.inr (.inr (0, 12, 68))), some (.inl a1), some (.inl a2), some (.inl a3), some (.inl a4), some (.inl a5), [] => F_M_net_132 N (L_M_net N n) a1 a2 a3 a4 a5 h
    | _, _, _, _, _, _, _ => none)
  | false => match Nat.beq pc 186 with
  | true => (match lk lv 0, lk lv 1, lk lv 2, lk lv 3, lk lv 4, lk lv 5, lk lv 6, lk lv 7, st with
    | some (.inr (.inr (0, 12, 68))), some (.inl a1), some (.inl a2), some (.inl a3), some (.inl a4), some (.inl a5), some (.inl a6), some (.inl a7), [] => F_M_net_186 N (L_M_net N n) a1 a2 a3 a4 a5 a6 a7 h
    | _, _, _, _, _, _, _, _, _ => none)
  | false => match Nat.beq pc 213 with
  | true => (match lk lv 0, lk lv 1, lk lv 2, lk lv 3, lk lv 4, lk lv 5, lk lv 6, lk lv 7, lk lv 8, lk lv 9, st with
    | some (.inr (.inr (0, 12, 68))), some (.inl a1), some (.inl a2), some (.inl a3), some (.inl a4), some (.inl a5), some (.inl a6), some (.inl a7), some (.inl a8), some (.inl a9), [] => F_M_net_213 N (L_M_net N n) a1 a2 a3 a4 a5 a6 a7 a8 a9 h
    | _, _, _, _, _, _, _, _, _, _, _ => none)
  | false => match Nat.beq pc 306 with
  | true => (match lk lv 0, lk lv 1, lk lv 2, lk lv 3, lk lv 7, lk lv 8, lk lv 9, st with
    | some (.inr (.inr (0, 12, 68))), some (.inl a1), some (.inl a2), some (.inl a3), some (.inl a7), some (.inl a8), some (.inl a9), [] => F_M_net_306 N (L_M_net N n) a1 a2 a3 a7 a8 a9 h
    | _, _, _, _, _, _, _, _ => none)
  | false => none
def B_M_net (N : Nat) (n pc : Nat) (lv : ML) (st : List MV) (h : MH) : Option (Int32 × MH) :=
  match Nat.beq pc 61 with
  | true => (match lk lv 0, lk lv 1, lk lv 2, lk lv 3, st with
    | some (.inr (.inr (0, 12, 68))), some (.inl a1), some (.inl a2), some (.inl a3), [] => ((L_M_net N n).1) a1 a2 a3 h
    | _, _, _, _, _ => none)
  | false => match Nat.beq pc 120 with
  | true => (match lk lv 0, lk lv 1, lk lv 2, lk lv 3, lk lv 4, st with
    | some (.inr (.inr (0, 12, 68))), some (.inl a1), some (.inl a2), some (.inl a3), some (.inl a4), [] => ((L_M_net N n).2.1) a1 a2 a3 a4 h
    | _, _, _, _, _, _ => none)
  | false => match Nat.beq pc 132 with
  | true => (match lk lv 0, lk lv 1, lk lv 2, lk lv 3, lk lv 4, lk lv 5, st with
    | some (.inr (.inr (0, 12, 68))), some (.inl a1), some (.inl a2), some (.inl a3), some (.inl a4), some (.inl a5), [] => ((L_M_net N n).2.2.1) a1 a2 a3 a4 a5 h
    | _, _, _, _, _, _, _ => none)
  | false => match Nat.beq pc 186 with
  | true => (match lk lv 0, lk lv 1, lk lv 2, lk lv 3, lk lv 4, lk lv 5, lk lv 6, lk lv 7, st with
    | some (.inr (.inr (0, 12, 68))), some (.inl a1), some (.inl a2), some (.inl a3), some (.inl a4), some (.inl a5), some (.inl a6), some (.inl a7), [] => ((L_M_net N n).2.2.2.1) a1 a2 a3 a4 a5 a6 a7 h
    | _, _, _, _, _, _, _, _, _ => none)
  | false => match Nat.beq pc 213 with
  | true => (match lk lv 0, lk lv 1, lk lv 2, lk lv 3, lk lv 4, lk lv 5, lk lv 6, lk lv 7, lk lv 8, lk lv 9, st with
    | some (.inr (.inr (0, 12, 68))), some (.inl a1), some (.inl a2), some (.inl a3), some (.inl a4), some (.inl a5), some (.inl a6), some (.inl a7), some (.inl a8), some (.inl a9), [] => ((L_M_net N n).2.2.2.2) a1 a2 a3 a4 a5 a6 a7 a8 a9 h
    | _, _, _, _, _, _, _, _, _, _, _ => none)
  | false => none
set_option maxRecDepth 1000000 in
theorem E_M_net_0 (N : Nat) (n : Nat) (a1 : Int32) (a2 : Int32) (h : MH) : seg (C_M_net N) 10 0 rI T_M_net [0, 61, 120, 132, 186, 213, 306] (fun q lv st h => match Nat.ble 1 q with
    | true => D_M_net N n q lv st h
    | false => B_M_net N n q lv st h) 400 true 0 [(0, .inr (.inr (0, 12, 68))), (1, .inl a1), (2, .inl a2)] [] h = F_M_net_0 N (L_M_net N n) a1 a2 h := (rfl)
set_option maxRecDepth 1000000 in
theorem E_M_net_61 (N : Nat) (n : Nat) (a1 : Int32) (a2 : Int32) (a3 : Int32) (h : MH) : seg (C_M_net N) 10 0 rI T_M_net [0, 61, 120, 132, 186, 213, 306] (fun q lv st h => match Nat.ble 62 q with
    | true => D_M_net N n q lv st h
    | false => B_M_net N n q lv st h) 400 true 61 [(0, .inr (.inr (0, 12, 68))), (1, .inl a1), (2, .inl a2), (3, .inl a3)] [] h = F_M_net_61 N (L_M_net N n) a1 a2 a3 h := (rfl)
set_option maxRecDepth 1000000 in
theorem E_M_net_120 (N : Nat) (n : Nat) (a1 : Int32) (a2 : Int32) (a3 : Int32) (a4 : Int32) (h : MH) : seg (C_M_net N) 10 0 rI T_M_net [0, 61, 120, 132, 186, 213, 306] (fun q lv st h => match Nat.ble 121 q with
    | true => D_M_net N n q lv st h
    | false => B_M_net N n q lv st h) 400 true 120 [(0, .inr (.inr (0, 12, 68))), (1, .inl a1), (2, .inl a2), (3, .inl a3), (4, .inl a4)] [] h = F_M_net_120 N (L_M_net N n) a1 a2 a3 a4 h := (rfl)
set_option maxRecDepth 1000000 in
theorem E_M_net_132 (N : Nat) (n : Nat) (a1 : Int32) (a2 : Int32) (a3 : Int32) (a4 : Int32) (a5 : Int32) (h : MH) : seg (C_M_net N) 10 0 rI T_M_net [0, 61, 120, 132, 186, 213, 306] (fun q lv st h => match Nat.ble 133 q with
    | true => D_M_net N n q lv st h
    | false => B_M_net N n q lv st h) 400 true 132 [(0, .inr (.inr (0, 12, 68))), (1, .inl a1), (2, .inl a2), (3, .inl a3), (4, .inl a4), (5, .inl a5)] [] h = F_M_net_132 N (L_M_net N n) a1 a2 a3 a4 a5 h := (rfl)
set_option maxRecDepth 1000000 in
theorem E_M_net_186 (N : Nat) (n : Nat) (a1 : Int32) (a2 : Int32) (a3 : Int32) (a4 : Int32) (a5 : Int32) (a6 : Int32) (a7 : Int32) (h : MH) : seg (C_M_net N) 10 0 rI T_M_net [0, 61, 120, 132, 186, 213, 306] (fun q lv st h => match Nat.ble 187 q with
    | true => D_M_net N n q lv st h
    | false => B_M_net N n q lv st h) 400 true 186 [(0, .inr (.inr (0, 12, 68))), (1, .inl a1), (2, .inl a2), (3, .inl a3), (4, .inl a4), (5, .inl a5), (6, .inl a6), (7, .inl a7)] [] h = F_M_net_186 N (L_M_net N n) a1 a2 a3 a4 a5 a6 a7 h := (rfl)
set_option maxRecDepth 1000000 in
theorem E_M_net_213 (N : Nat) (n : Nat) (a1 : Int32) (a2 : Int32) (a3 : Int32) (a4 : Int32) (a5 : Int32) (a6 : Int32) (a7 : Int32) (a8 : Int32) (a9 : Int32) (h : MH) : seg (C_M_net N) 10 0 rI T_M_net [0, 61, 120, 132, 186, 213, 306] (fun q lv st h => match Nat.ble 214 q with
    | true => D_M_net N n q lv st h
    | false => B_M_net N n q lv st h) 400 true 213 [(0, .inr (.inr (0, 12, 68))), (1, .inl a1), (2, .inl a2), (3, .inl a3), (4, .inl a4), (5, .inl a5), (6, .inl a6), (7, .inl a7), (8, .inl a8), (9, .inl a9)] [] h = F_M_net_213 N (L_M_net N n) a1 a2 a3 a4 a5 a6 a7 a8 a9 h := (rfl)
set_option maxRecDepth 1000000 in
theorem E_M_net_306 (N : Nat) (n : Nat) (a1 : Int32) (a2 : Int32) (a3 : Int32) (a7 : Int32) (a8 : Int32) (a9 : Int32) (h : MH) : seg (C_M_net N) 10 0 rI T_M_net [0, 61, 120, 132, 186, 213, 306] (fun q lv st h => match Nat.ble 307 q with
    | true => D_M_net N n q lv st h
    | false => B_M_net N n q lv st h) 400 true 306 [(0, .inr (.inr (0, 12, 68))), (1, .inl a1), (2, .inl a2), (3, .inl a3), (7, .inl a7), (8, .inl a8), (9, .inl a9)] [] h = F_M_net_306 N (L_M_net N n) a1 a2 a3 a7 a8 a9 h := (rfl)
def T_M_netTold : List (List (Option RW)) := [
  [some (.iload_n 1, 1, [1], 0, 0), some (.ifCond .lt 8, 3, [9], 0, 0), none, none, some (.iload_n 1, 1, [1], 0, 0), some (.iconst 1, 1, [], 1, 0), some (.if_icmp .le 11, 3, [17], 0, 0), none, none, some (.aload_n 0, 1, [0], 0, 0), some (.iconst 1, 1, [], 1, 0), some (.invokevirtual 342, 3, [0, 168, 2, 0], 0, 0), none, none, some (.goto 39, 3, [53], 0, 0), none, none, some (.aload_n 0, 1, [0], 0, 0), some (.getfield 162, 3, [12, 79, 0], 0, 0), none, none, some (.iconst (-1), 1, [], (-1), 0), some (.if_icmp .ne 12, 3, [34], 0, 0), none, none, some (.aload_n 0, 1, [0], 0, 0), some (.bipush 6, 2, [], 6, 0), none, some (.invokevirtual 342, 3, [0, 168, 2, 0], 0, 0), none, none, some (.goto 22, 3, [53], 0, 0)],
  [none, none, some (.aload_n 0, 1, [0], 0, 0), some (.iload_n 1, 1, [1], 0, 0), some (.ifCond .ne 10, 3, [46], 0, 0), none, none, some (.aload_n 0, 1, [0], 0, 0), some (.getfield 162, 3, [12, 79, 0], 0, 0), none, none, some (.goto 7, 3, [50], 0, 0), none, none, some (.aload_n 0, 1, [0], 0, 0), some (.getfield 484, 3, [12, 80, 0], 0, 0), none, none, some (.invokevirtual 180, 3, [0, 169, 2, 0], 0, 0), none, none, some (.ireturn, 1, [], 0, 0)]]
def f_M_netTold (N : Nat) (a1 : Int32) (h : MH) : Option (Int32 × MH) :=
  if a1 < 0 then
  ((f_M_refuse N 1 h).bind (fun x1 =>
  some (x1.1, x1.2)))
  else
  (if a1 ≤ 1 then
  (if (gI h 68 79) = ((-1)) then
  ((f_M_refuse N 6 h).bind (fun x2 =>
  some (x2.1, x2.2)))
  else
  (if a1 = 0 then
  ((f_M_gives N (gI h 68 79) h).bind (fun x3 =>
  some (x3.1, x3.2)))
  else
  ((f_M_gives N (gI h 68 80) h).bind (fun x4 =>
  some (x4.1, x4.2)))))
  else
  ((f_M_refuse N 1 h).bind (fun x5 =>
  some (x5.1, x5.2))))
def C_M_netTold (N : Nat) : MC := (KDL, false, (fun _ => 0), jsB, (fun j => match Nat.beq j 168 with
    | true => w_M_refuse (f_M_refuse N)
    | false => match Nat.beq j 169 with
    | true => w_M_gives (f_M_gives N)
    | false => fun _ _ => none), (fun _ _ _ => none), (fun _ _ _ => none), (fun _ _ _ => none))
def D_M_netTold (N : Nat) (n pc : Nat) (lv : ML) (st : List MV) (h : MH) : Option (Int32 × MH) :=
  match Nat.beq pc 0 with
  | true => (match lk lv 0, lk lv 1, st with
    | some (.inr (.inr (0, 12, 68))), some (.inl a1), [] => f_M_netTold N a1 h
    | _, _, _ => none)
  | false => none
set_option maxRecDepth 1000000 in
theorem E_M_netTold_0 (N : Nat) (n : Nat) (a1 : Int32) (h : MH) : seg (C_M_netTold N) 2 0 rI T_M_netTold [0] (fun q lv st h => match Nat.ble 1 q with
    | true => D_M_netTold N n q lv st h
    | false => none) 400 true 0 [(0, .inr (.inr (0, 12, 68))), (1, .inl a1)] [] h = f_M_netTold N a1 h := (rfl)
def T_M_few : List (List (Option RW)) := [
  [some (.iload_n 1, 1, [1], 0, 0), some (.invokestatic 184, 3, [2, 171, 1, 0], 0, 0), none, none, some (.ifCond .eq 32, 3, [36], 0, 0), none, none, some (.iload_n 2, 1, [2], 0, 0), some (.iconst 1, 1, [], 1, 0), some (.if_icmp .lt 27, 3, [36], 0, 0), none, none, some (.iload_n 2, 1, [2], 0, 0), some (.bipush 8, 2, [], 8, 0), none, some (.if_icmp .gt 21, 3, [36], 0, 0), none, none, some (.iload_n 3, 1, [3], 0, 0), some (.ifCond .lt 17, 3, [36], 0, 0), none, none, some (.iload 4, 2, [4], 0, 0), none, some (.sipush 2000, 3, [], 2000, 0), none, none, some (.if_icmp .gt 9, 3, [36], 0, 0), none, none, some (.iload 4, 2, [4], 0, 0), none],
  [some (.iload_n 3, 1, [3], 0, 0), some (.if_icmp .ge 9, 3, [42], 0, 0), none, none, some (.aload_n 0, 1, [0], 0, 0), some (.iconst 1, 1, [], 1, 0), some (.invokevirtual 342, 3, [0, 168, 2, 0], 0, 0), none, none, some (.ireturn, 1, [], 0, 0), some (.aload_n 0, 1, [0], 0, 0), some (.getfield 17, 3, [12, 4, 2, 1, 4, 2], 0, 0), none, none, some (.iload_n 1, 1, [1], 0, 0), some (.iaload, 1, [], 0, 0), some (.iconst (-1), 1, [], (-1), 0), some (.if_icmp .ne 9, 3, [58], 0, 0), none, none, some (.aload_n 0, 1, [0], 0, 0), some (.iconst 2, 1, [], 2, 0), some (.invokevirtual 342, 3, [0, 168, 2, 0], 0, 0), none, none, some (.ireturn, 1, [], 0, 0), some (.aload_n 0, 1, [0], 0, 0), some (.getfield 17, 3, [12, 4, 2, 1, 4, 2], 0, 0), none, none, some (.iload_n 1, 1, [1], 0, 0), some (.iaload, 1, [], 0, 0)],
  [some (.iload_n 2, 1, [2], 0, 0), some (.if_icmp .ge 9, 3, [74], 0, 0), none, none, some (.aload_n 0, 1, [0], 0, 0), some (.iconst 3, 1, [], 3, 0), some (.invokevirtual 342, 3, [0, 168, 2, 0], 0, 0), none, none, some (.ireturn, 1, [], 0, 0), some (.iconst 0, 1, [], 0, 0), some (.istore 5, 2, [5], 0, 0), none, some (.iload 5, 2, [5], 0, 0), none, some (.iload_n 2, 1, [2], 0, 0), some (.if_icmp .ge 51, 3, [131], 0, 0), none, none, some (.aload_n 0, 1, [0], 0, 0), some (.getfield 20, 3, [12, 5, 2, 2, 240, 3], 0, 0), none, none, some (.bipush 60, 2, [], 60, 0), none, some (.iload_n 1, 1, [1], 0, 0), some (.imul, 1, [], 0, 0), some (.iload 5, 2, [5], 0, 0), none, some (.iadd, 1, [], 0, 0), some (.laload, 1, [], 0, 0), some (.lconst 1, 1, [], 0, 1)],
  [some (.lcmp, 1, [], 0, 0), some (.ifCond .lt 22, 3, [119], 0, 0), none, none, some (.aload_n 0, 1, [0], 0, 0), some (.getfield 20, 3, [12, 5, 2, 2, 240, 3], 0, 0), none, none, some (.bipush 60, 2, [], 60, 0), none, some (.iload_n 1, 1, [1], 0, 0), some (.imul, 1, [], 0, 0), some (.iload 5, 2, [5], 0, 0), none, some (.iadd, 1, [], 0, 0), some (.laload, 1, [], 0, 0), some (.ldc2_w 487, 3, [], 0, 99), none, none, some (.lcmp, 1, [], 0, 0), some (.ifCond .le 9, 3, [125], 0, 0), none, none, some (.aload_n 0, 1, [0], 0, 0), some (.iconst 1, 1, [], 1, 0), some (.invokevirtual 342, 3, [0, 168, 2, 0], 0, 0), none, none, some (.ireturn, 1, [], 0, 0), some (.iinc 5 1, 3, [5], 1, 0), none, none],
  [some (.goto (-51), 3, [77], 0, 0), none, none, some (.iconst 0, 1, [], 0, 0), some (.istore 5, 2, [5], 0, 0), none, some (.iload 5, 2, [5], 0, 0), none, some (.iload_n 2, 1, [2], 0, 0), some (.if_icmp .ge 29, 3, [166], 0, 0), none, none, some (.aload_n 0, 1, [0], 0, 0), some (.getfield 171, 3, [12, 84, 2, 1, 8, 47], 0, 0), none, none, some (.iload 5, 2, [5], 0, 0), none, some (.aload_n 0, 1, [0], 0, 0), some (.getfield 20, 3, [12, 5, 2, 2, 240, 3], 0, 0), none, none, some (.bipush 60, 2, [], 60, 0), none, some (.iload_n 1, 1, [1], 0, 0), some (.imul, 1, [], 0, 0), some (.iload 5, 2, [5], 0, 0), none, some (.iadd, 1, [], 0, 0), some (.laload, 1, [], 0, 0), some (.l2i, 1, [], 0, 0), some (.iastore, 1, [], 0, 0)],
  [some (.iinc 5 1, 3, [5], 1, 0), none, none, some (.goto (-29), 3, [134], 0, 0), none, none, some (.iload_n 2, 1, [2], 0, 0), some (.istore 5, 2, [5], 0, 0), none, some (.iload 5, 2, [5], 0, 0), none, some (.ifCond .lt 130, 3, [301], 0, 0), none, none, some (.iconst 0, 1, [], 0, 0), some (.istore 6, 2, [6], 0, 0), none, some (.iload 6, 2, [6], 0, 0), none, some (.sipush 2000, 3, [], 2000, 0), none, none, some (.if_icmp .gt 113, 3, [295], 0, 0), none, none, some (.iload 5, 2, [5], 0, 0), none, some (.iload_n 2, 1, [2], 0, 0), some (.if_icmp .ne 18, 3, [206], 0, 0), none, none, some (.iload 6, 2, [6], 0, 0)],
  [none, some (.ifCond .ne 7, 3, [200], 0, 0), none, none, some (.iconst 0, 1, [], 0, 0), some (.goto 25, 3, [222], 0, 0), none, none, some (.ldc_w 489, 3, [], 100000000, 0), none, none, some (.goto 19, 3, [222], 0, 0), none, none, some (.aload_n 0, 1, [0], 0, 0), some (.getfield 165, 3, [12, 81, 2, 1, 18009, 45], 0, 0), none, none, some (.sipush 2001, 3, [], 2001, 0), none, none, some (.iload 5, 2, [5], 0, 0), none, some (.iconst 1, 1, [], 1, 0), some (.iadd, 1, [], 0, 0), some (.imul, 1, [], 0, 0), some (.iload 6, 2, [6], 0, 0), none, some (.iadd, 1, [], 0, 0), some (.iaload, 1, [], 0, 0), some (.istore 7, 2, [7], 0, 0), none],
  [some (.iload 5, 2, [5], 0, 0), none, some (.iload_n 2, 1, [2], 0, 0), some (.if_icmp .ge 46, 3, [273], 0, 0), none, none, some (.iload 6, 2, [6], 0, 0), none, some (.aload_n 0, 1, [0], 0, 0), some (.getfield 171, 3, [12, 84, 2, 1, 8, 47], 0, 0), none, none, some (.iload 5, 2, [5], 0, 0), none, some (.iaload, 1, [], 0, 0), some (.if_icmp .lt 34, 3, [273], 0, 0), none, none, some (.iload 7, 2, [7], 0, 0), none, some (.iconst 1, 1, [], 1, 0), some (.aload_n 0, 1, [0], 0, 0), some (.getfield 165, 3, [12, 81, 2, 1, 18009, 45], 0, 0), none, none, some (.sipush 2001, 3, [], 2001, 0), none, none, some (.iload 5, 2, [5], 0, 0), none, some (.imul, 1, [], 0, 0), some (.iload 6, 2, [6], 0, 0)],
  [none, some (.iadd, 1, [], 0, 0), some (.aload_n 0, 1, [0], 0, 0), some (.getfield 171, 3, [12, 84, 2, 1, 8, 47], 0, 0), none, none, some (.iload 5, 2, [5], 0, 0), none, some (.iaload, 1, [], 0, 0), some (.isub, 1, [], 0, 0), some (.iaload, 1, [], 0, 0), some (.iadd, 1, [], 0, 0), some (.invokestatic 233, 3, [2, 261, 2, 0], 0, 0), none, none, some (.istore 7, 2, [7], 0, 0), none, some (.aload_n 0, 1, [0], 0, 0), some (.getfield 165, 3, [12, 81, 2, 1, 18009, 45], 0, 0), none, none, some (.sipush 2001, 3, [], 2001, 0), none, none, some (.iload 5, 2, [5], 0, 0), none, some (.imul, 1, [], 0, 0), some (.iload 6, 2, [6], 0, 0), none, some (.iadd, 1, [], 0, 0), some (.iload 7, 2, [7], 0, 0), none],
  [some (.iastore, 1, [], 0, 0), some (.iinc 6 1, 3, [6], 1, 0), none, none, some (.goto (-115), 3, [177], 0, 0), none, none, some (.iinc 5 (-1), 3, [5], (-1), 0), none, none, some (.goto (-129), 3, [169], 0, 0), none, none, some (.iconst (-1), 1, [], (-1), 0), some (.istore 5, 2, [5], 0, 0), none, some (.iload_n 3, 1, [3], 0, 0), some (.istore 6, 2, [6], 0, 0), none, some (.iload 6, 2, [6], 0, 0), none, some (.iload 4, 2, [4], 0, 0), none, some (.if_icmp .gt 49, 3, [360], 0, 0), none, none, some (.aload_n 0, 1, [0], 0, 0), some (.getfield 165, 3, [12, 81, 2, 1, 18009, 45], 0, 0), none, none, some (.iload 6, 2, [6], 0, 0), none],
  [some (.iaload, 1, [], 0, 0), some (.ldc_w 489, 3, [], 100000000, 0), none, none, some (.if_icmp .ge 30, 3, [354], 0, 0), none, none, some (.iload 5, 2, [5], 0, 0), none, some (.iconst (-1), 1, [], (-1), 0), some (.if_icmp .eq 20, 3, [350], 0, 0), none, none, some (.aload_n 0, 1, [0], 0, 0), some (.getfield 165, 3, [12, 81, 2, 1, 18009, 45], 0, 0), none, none, some (.iload 6, 2, [6], 0, 0), none, some (.iaload, 1, [], 0, 0), some (.aload_n 0, 1, [0], 0, 0), some (.getfield 165, 3, [12, 81, 2, 1, 18009, 45], 0, 0), none, none, some (.iload 5, 2, [5], 0, 0), none, some (.iaload, 1, [], 0, 0), some (.if_icmp .ge 7, 3, [354], 0, 0), none, none, some (.iload 6, 2, [6], 0, 0), none],
  [some (.istore 5, 2, [5], 0, 0), none, some (.iinc 6 1, 3, [6], 1, 0), none, none, some (.goto (-50), 3, [307], 0, 0), none, none, some (.iload 5, 2, [5], 0, 0), none, some (.iconst (-1), 1, [], (-1), 0), some (.if_icmp .ne 10, 3, [373], 0, 0), none, none, some (.aload_n 0, 1, [0], 0, 0), some (.bipush 6, 2, [], 6, 0), none, some (.invokevirtual 342, 3, [0, 168, 2, 0], 0, 0), none, none, some (.ireturn, 1, [], 0, 0), some (.aload_n 0, 1, [0], 0, 0), some (.getfield 165, 3, [12, 81, 2, 1, 18009, 45], 0, 0), none, none, some (.iload 5, 2, [5], 0, 0), none, some (.iaload, 1, [], 0, 0), some (.istore 6, 2, [6], 0, 0), none, some (.iload 5, 2, [5], 0, 0), none],
  [some (.istore 7, 2, [7], 0, 0), none, some (.iload 6, 2, [6], 0, 0), none, some (.istore 8, 2, [8], 0, 0), none, some (.iconst 0, 1, [], 0, 0), some (.istore 9, 2, [9], 0, 0), none, some (.iload 9, 2, [9], 0, 0), none, some (.iload_n 2, 1, [2], 0, 0), some (.if_icmp .ge 63, 3, [459], 0, 0), none, none, some (.iconst 0, 1, [], 0, 0), some (.istore 10, 2, [10], 0, 0), none, some (.aload_n 0, 1, [0], 0, 0), some (.getfield 165, 3, [12, 81, 2, 1, 18009, 45], 0, 0), none, none, some (.sipush 2001, 3, [], 2001, 0), none, none, some (.iload 9, 2, [9], 0, 0), none, some (.iconst 1, 1, [], 1, 0), some (.iadd, 1, [], 0, 0), some (.imul, 1, [], 0, 0), some (.iload 7, 2, [7], 0, 0), none],
  [some (.iadd, 1, [], 0, 0), some (.iaload, 1, [], 0, 0), some (.iload 8, 2, [8], 0, 0), none, some (.if_icmp .eq 24, 3, [444], 0, 0), none, none, some (.iinc 10 1, 3, [10], 1, 0), none, none, some (.iload 7, 2, [7], 0, 0), none, some (.aload_n 0, 1, [0], 0, 0), some (.getfield 171, 3, [12, 84, 2, 1, 8, 47], 0, 0), none, none, some (.iload 9, 2, [9], 0, 0), none, some (.iaload, 1, [], 0, 0), some (.isub, 1, [], 0, 0), some (.istore 7, 2, [7], 0, 0), none, some (.iinc 8 (-1), 3, [8], (-1), 0), none, none, some (.goto (-39), 3, [402], 0, 0), none, none, some (.aload_n 0, 1, [0], 0, 0), some (.getfield 168, 3, [12, 82, 2, 1, 8, 46], 0, 0), none, none],
  [some (.iload 9, 2, [9], 0, 0), none, some (.iload 10, 2, [10], 0, 0), none, some (.iastore, 1, [], 0, 0), some (.iinc 9 1, 3, [9], 1, 0), none, none, some (.goto (-63), 3, [393], 0, 0), none, none, some (.aload_n 0, 1, [0], 0, 0), some (.iload_n 2, 1, [2], 0, 0), some (.putfield 490, 3, [12, 83, 0], 0, 0), none, none, some (.aload_n 0, 1, [0], 0, 0), some (.iload 6, 2, [6], 0, 0), none, some (.invokevirtual 180, 3, [0, 169, 2, 0], 0, 0), none, none, some (.ireturn, 1, [], 0, 0)]]
def F_M_few_402 (N : Nat) (bk : (Int32 → Int32 → Int32 → Int32 → Int32 → MH → Option (Int32 × MH)) × (Int32 → Int32 → Int32 → Int32 → Int32 → MH → Option (Int32 × MH)) × (Int32 → Int32 → Int32 → Int32 → MH → Option (Int32 × MH)) × (Int32 → Int32 → Int32 → Int32 → Int32 → MH → Option (Int32 × MH)) × (Int32 → Int32 → Int32 → Int32 → MH → Option (Int32 × MH)) × (Int32 → Int32 → Int32 → Int32 → Int32 → MH → Option (Int32 × MH)) × (Int32 → Int32 → Int32 → Int32 → Int32 → Int32 → MH → Option (Int32 × MH))) (a2 : Int32) (a6 : Int32) (a7 : Int32) (a8 : Int32) (a9 : Int32) (a10 : Int32) (h : MH) : Option (Int32 × MH) :=
  if inB ((2001 * (a9 + 1)) + a7) 18009 = true then
  (if (gI h 113 (iN ((2001 * (a9 + 1)) + a7))) = a8 then
  (if inB a9 8 = true then
  (let h27 : MH := sI h 114 (iN a9) a10
  let v28 : Int32 := a9 + 1
  (bk.2.2.2.2.2.1) a2 a6 a7 a8 v28 h27)
  else none)
  else
  (let v29 : Int32 := a10 + 1
  if inB a9 8 = true then
  (let v30 : Int32 := a7 - (gI h 115 (iN a9))
  let v31 : Int32 := a8 + (-1)
  (bk.2.2.2.2.2.2) a2 a6 v30 v31 a9 v29 h)
  else none))
  else none
def F_M_few_393 (N : Nat) (bk : (Int32 → Int32 → Int32 → Int32 → Int32 → MH → Option (Int32 × MH)) × (Int32 → Int32 → Int32 → Int32 → Int32 → MH → Option (Int32 × MH)) × (Int32 → Int32 → Int32 → Int32 → MH → Option (Int32 × MH)) × (Int32 → Int32 → Int32 → Int32 → Int32 → MH → Option (Int32 × MH)) × (Int32 → Int32 → Int32 → Int32 → MH → Option (Int32 × MH)) × (Int32 → Int32 → Int32 → Int32 → Int32 → MH → Option (Int32 × MH)) × (Int32 → Int32 → Int32 → Int32 → Int32 → Int32 → MH → Option (Int32 × MH))) (a2 : Int32) (a6 : Int32) (a7 : Int32) (a8 : Int32) (a9 : Int32) (h : MH) : Option (Int32 × MH) :=
  if a2 ≤ a9 then
  (let h25 : MH := sI h 68 83 a2
  (f_M_gives N a6 h25).bind (fun x26 =>
  some (x26.1, x26.2)))
  else
  (F_M_few_402 N bk a2 a6 a7 a8 a9 0 h)
def F_M_few_307 (N : Nat) (bk : (Int32 → Int32 → Int32 → Int32 → Int32 → MH → Option (Int32 × MH)) × (Int32 → Int32 → Int32 → Int32 → Int32 → MH → Option (Int32 × MH)) × (Int32 → Int32 → Int32 → Int32 → MH → Option (Int32 × MH)) × (Int32 → Int32 → Int32 → Int32 → Int32 → MH → Option (Int32 × MH)) × (Int32 → Int32 → Int32 → Int32 → MH → Option (Int32 × MH)) × (Int32 → Int32 → Int32 → Int32 → Int32 → MH → Option (Int32 × MH)) × (Int32 → Int32 → Int32 → Int32 → Int32 → Int32 → MH → Option (Int32 × MH))) (a2 : Int32) (a4 : Int32) (a5 : Int32) (a6 : Int32) (h : MH) : Option (Int32 × MH) :=
  if a4 < a6 then
  (if a5 = ((-1)) then
  ((f_M_refuse N 6 h).bind (fun x19 =>
  some (x19.1, x19.2)))
  else
  (if inB a5 18009 = true then
  (let v20 : Int32 := gI h 113 (iN a5)
  F_M_few_393 N bk a2 v20 a5 v20 0 h)
  else none))
  else
  (if inB a6 18009 = true then
  (if 100000000 ≤ (gI h 113 (iN a6)) then
  (let v21 : Int32 := a6 + 1
  (bk.2.2.2.2.1) a2 a4 a5 v21 h)
  else
  (if a5 = ((-1)) then
  (let v22 : Int32 := a6 + 1
  (bk.2.2.2.2.1) a2 a4 a6 v22 h)
  else
  (if inB a6 18009 = true then
  (if inB a5 18009 = true then
  (if (gI h 113 (iN a5)) ≤ (gI h 113 (iN a6)) then
  (let v23 : Int32 := a6 + 1
  (bk.2.2.2.2.1) a2 a4 a5 v23 h)
  else
  (let v24 : Int32 := a6 + 1
  (bk.2.2.2.2.1) a2 a4 a6 v24 h))
  else none)
  else none)))
  else none)
def F_M_few_273 (N : Nat) (bk : (Int32 → Int32 → Int32 → Int32 → Int32 → MH → Option (Int32 × MH)) × (Int32 → Int32 → Int32 → Int32 → Int32 → MH → Option (Int32 × MH)) × (Int32 → Int32 → Int32 → Int32 → MH → Option (Int32 × MH)) × (Int32 → Int32 → Int32 → Int32 → Int32 → MH → Option (Int32 × MH)) × (Int32 → Int32 → Int32 → Int32 → MH → Option (Int32 × MH)) × (Int32 → Int32 → Int32 → Int32 → Int32 → MH → Option (Int32 × MH)) × (Int32 → Int32 → Int32 → Int32 → Int32 → Int32 → MH → Option (Int32 × MH))) (a2 : Int32) (a3 : Int32) (a4 : Int32) (a5 : Int32) (a6 : Int32) (a7 : Int32) (h : MH) : Option (Int32 × MH) :=
  if inB ((2001 * a5) + a6) 18009 = true then
  (let h17 : MH := sI h 113 (iN ((2001 * a5) + a6)) a7
  let v18 : Int32 := a6 + 1
  (bk.2.2.2.1) a2 a3 a4 a5 v18 h17)
  else none
def F_M_few_222 (N : Nat) (bk : (Int32 → Int32 → Int32 → Int32 → Int32 → MH → Option (Int32 × MH)) × (Int32 → Int32 → Int32 → Int32 → Int32 → MH → Option (Int32 × MH)) × (Int32 → Int32 → Int32 → Int32 → MH → Option (Int32 × MH)) × (Int32 → Int32 → Int32 → Int32 → Int32 → MH → Option (Int32 × MH)) × (Int32 → Int32 → Int32 → Int32 → MH → Option (Int32 × MH)) × (Int32 → Int32 → Int32 → Int32 → Int32 → MH → Option (Int32 × MH)) × (Int32 → Int32 → Int32 → Int32 → Int32 → Int32 → MH → Option (Int32 × MH))) (a2 : Int32) (a3 : Int32) (a4 : Int32) (a5 : Int32) (a6 : Int32) (as0 : Int32) (h : MH) : Option (Int32 × MH) :=
  if a2 ≤ a5 then
  (F_M_few_273 N bk a2 a3 a4 a5 a6 as0 h)
  else
  (if inB a5 8 = true then
  (if a6 < (gI h 115 (iN a5)) then
  (F_M_few_273 N bk a2 a3 a4 a5 a6 as0 h)
  else
  (if inB a5 8 = true then
  (if inB (((2001 * a5) + a6) - (gI h 115 (iN a5))) 18009 = true then
  ((f_Math_min_II N as0 (1 + (gI h 113 (iN (((2001 * a5) + a6) - (gI h 115 (iN a5)))))) h).bind (fun x16 =>
  F_M_few_273 N bk a2 a3 a4 a5 a6 x16.1 x16.2))
  else none)
  else none))
  else none)
def F_M_few_177 (N : Nat) (bk : (Int32 → Int32 → Int32 → Int32 → Int32 → MH → Option (Int32 × MH)) × (Int32 → Int32 → Int32 → Int32 → Int32 → MH → Option (Int32 × MH)) × (Int32 → Int32 → Int32 → Int32 → MH → Option (Int32 × MH)) × (Int32 → Int32 → Int32 → Int32 → Int32 → MH → Option (Int32 × MH)) × (Int32 → Int32 → Int32 → Int32 → MH → Option (Int32 × MH)) × (Int32 → Int32 → Int32 → Int32 → Int32 → MH → Option (Int32 × MH)) × (Int32 → Int32 → Int32 → Int32 → Int32 → Int32 → MH → Option (Int32 × MH))) (a2 : Int32) (a3 : Int32) (a4 : Int32) (a5 : Int32) (a6 : Int32) (h : MH) : Option (Int32 × MH) :=
  if 2000 < a6 then
  (let v15 : Int32 := a5 + (-1)
  (bk.2.2.1) a2 a3 a4 v15 h)
  else
  (if a5 = a2 then
  (if a6 = 0 then
  (F_M_few_222 N bk a2 a3 a4 a5 a6 0 h)
  else
  (F_M_few_222 N bk a2 a3 a4 a5 a6 100000000 h))
  else
  (if inB ((2001 * (a5 + 1)) + a6) 18009 = true then
  (F_M_few_222 N bk a2 a3 a4 a5 a6 (gI h 113 (iN ((2001 * (a5 + 1)) + a6))) h)
  else none))
def F_M_few_169 (N : Nat) (bk : (Int32 → Int32 → Int32 → Int32 → Int32 → MH → Option (Int32 × MH)) × (Int32 → Int32 → Int32 → Int32 → Int32 → MH → Option (Int32 × MH)) × (Int32 → Int32 → Int32 → Int32 → MH → Option (Int32 × MH)) × (Int32 → Int32 → Int32 → Int32 → Int32 → MH → Option (Int32 × MH)) × (Int32 → Int32 → Int32 → Int32 → MH → Option (Int32 × MH)) × (Int32 → Int32 → Int32 → Int32 → Int32 → MH → Option (Int32 × MH)) × (Int32 → Int32 → Int32 → Int32 → Int32 → Int32 → MH → Option (Int32 × MH))) (a2 : Int32) (a3 : Int32) (a4 : Int32) (a5 : Int32) (h : MH) : Option (Int32 × MH) :=
  if a5 < 0 then
  (F_M_few_307 N bk a2 a4 ((-1)) a3 h)
  else
  (F_M_few_177 N bk a2 a3 a4 a5 0 h)
def F_M_few_134 (N : Nat) (bk : (Int32 → Int32 → Int32 → Int32 → Int32 → MH → Option (Int32 × MH)) × (Int32 → Int32 → Int32 → Int32 → Int32 → MH → Option (Int32 × MH)) × (Int32 → Int32 → Int32 → Int32 → MH → Option (Int32 × MH)) × (Int32 → Int32 → Int32 → Int32 → Int32 → MH → Option (Int32 × MH)) × (Int32 → Int32 → Int32 → Int32 → MH → Option (Int32 × MH)) × (Int32 → Int32 → Int32 → Int32 → Int32 → MH → Option (Int32 × MH)) × (Int32 → Int32 → Int32 → Int32 → Int32 → Int32 → MH → Option (Int32 × MH))) (a1 : Int32) (a2 : Int32) (a3 : Int32) (a4 : Int32) (a5 : Int32) (h : MH) : Option (Int32 × MH) :=
  if a2 ≤ a5 then
  (F_M_few_169 N bk a2 a3 a4 a2 h)
  else
  (if inB ((60 * a1) + a5) 240 = true then
  (if inB a5 8 = true then
  (let h13 : MH := sI h 115 (iN a5) (Int64.toInt32 (gJ h 71 (iN ((60 * a1) + a5))))
  let v14 : Int32 := a5 + 1
  (bk.2.1) a1 a2 a3 a4 v14 h13)
  else none)
  else none)
def F_M_few_77 (N : Nat) (bk : (Int32 → Int32 → Int32 → Int32 → Int32 → MH → Option (Int32 × MH)) × (Int32 → Int32 → Int32 → Int32 → Int32 → MH → Option (Int32 × MH)) × (Int32 → Int32 → Int32 → Int32 → MH → Option (Int32 × MH)) × (Int32 → Int32 → Int32 → Int32 → Int32 → MH → Option (Int32 × MH)) × (Int32 → Int32 → Int32 → Int32 → MH → Option (Int32 × MH)) × (Int32 → Int32 → Int32 → Int32 → Int32 → MH → Option (Int32 × MH)) × (Int32 → Int32 → Int32 → Int32 → Int32 → Int32 → MH → Option (Int32 × MH))) (a1 : Int32) (a2 : Int32) (a3 : Int32) (a4 : Int32) (a5 : Int32) (h : MH) : Option (Int32 × MH) :=
  if a2 ≤ a5 then
  (F_M_few_134 N bk a1 a2 a3 a4 0 h)
  else
  (if inB ((60 * a1) + a5) 240 = true then
  (if (lg_cmp (gJ h 71 (iN ((60 * a1) + a5))) 1) < 0 then
  ((f_M_refuse N 1 h).bind (fun x10 =>
  some (x10.1, x10.2)))
  else
  (if inB ((60 * a1) + a5) 240 = true then
  (if (lg_cmp (gJ h 71 (iN ((60 * a1) + a5))) 99) ≤ 0 then
  (let v11 : Int32 := a5 + 1
  (bk.1) a1 a2 a3 a4 v11 h)
  else
  ((f_M_refuse N 1 h).bind (fun x12 =>
  some (x12.1, x12.2))))
  else none))
  else none)
def F_M_few_0 (N : Nat) (bk : (Int32 → Int32 → Int32 → Int32 → Int32 → MH → Option (Int32 × MH)) × (Int32 → Int32 → Int32 → Int32 → Int32 → MH → Option (Int32 × MH)) × (Int32 → Int32 → Int32 → Int32 → MH → Option (Int32 × MH)) × (Int32 → Int32 → Int32 → Int32 → Int32 → MH → Option (Int32 × MH)) × (Int32 → Int32 → Int32 → Int32 → MH → Option (Int32 × MH)) × (Int32 → Int32 → Int32 → Int32 → Int32 → MH → Option (Int32 × MH)) × (Int32 → Int32 → Int32 → Int32 → Int32 → Int32 → MH → Option (Int32 × MH))) (a1 : Int32) (a2 : Int32) (a3 : Int32) (a4 : Int32) (h : MH) : Option (Int32 × MH) :=
  (f_M_isTray N a1 h).bind (fun x1 =>
  if x1.1 = 0 then
  ((f_M_refuse N 1 x1.2).bind (fun x2 =>
  some (x2.1, x2.2)))
  else
  (if a2 < 1 then
  ((f_M_refuse N 1 x1.2).bind (fun x3 =>
  some (x3.1, x3.2)))
  else
  (if 8 < a2 then
  ((f_M_refuse N 1 x1.2).bind (fun x4 =>
  some (x4.1, x4.2)))
  else
  (if a3 < 0 then
  ((f_M_refuse N 1 x1.2).bind (fun x5 =>
  some (x5.1, x5.2)))
  else
  (if 2000 < a4 then
  ((f_M_refuse N 1 x1.2).bind (fun x6 =>
  some (x6.1, x6.2)))
  else
  (if a3 ≤ a4 then
  (if inB a1 4 = true then
  (if (gI x1.2 70 (iN a1)) = ((-1)) then
  ((f_M_refuse N 2 x1.2).bind (fun x7 =>
  some (x7.1, x7.2)))
  else
  (if inB a1 4 = true then
  (if a2 ≤ (gI x1.2 70 (iN a1)) then
  (F_M_few_77 N bk a1 a2 a3 a4 0 x1.2)
  else
  ((f_M_refuse N 3 x1.2).bind (fun x8 =>
  some (x8.1, x8.2))))
  else none))
  else none)
  else
  ((f_M_refuse N 1 x1.2).bind (fun x9 =>
  some (x9.1, x9.2)))))))))
def L_M_few (N : Nat) : Nat → ((Int32 → Int32 → Int32 → Int32 → Int32 → MH → Option (Int32 × MH)) × (Int32 → Int32 → Int32 → Int32 → Int32 → MH → Option (Int32 × MH)) × (Int32 → Int32 → Int32 → Int32 → MH → Option (Int32 × MH)) × (Int32 → Int32 → Int32 → Int32 → Int32 → MH → Option (Int32 × MH)) × (Int32 → Int32 → Int32 → Int32 → MH → Option (Int32 × MH)) × (Int32 → Int32 → Int32 → Int32 → Int32 → MH → Option (Int32 × MH)) × (Int32 → Int32 → Int32 → Int32 → Int32 → Int32 → MH → Option (Int32 × MH)))
  | 0 => (fun _ _ _ _ _ _ => none, fun _ _ _ _ _ _ => none, fun _ _ _ _ _ => none, fun _ _ _ _ _ _ => none, fun _ _ _ _ _ => none, fun _ _ _ _ _ _ => none, fun _ _ _ _ _ _ _ => none)
  | n + 1 => (F_M_few_77 N (L_M_few N n), F_M_few_134 N (L_M_few N n), F_M_few_169 N (L_M_few N n), F_M_few_177 N (L_M_few N n), F_M_few_307 N (L_M_few N n), F_M_few_393 N (L_M_few N n), F_M_few_402 N (L_M_few N n))
def f_M_few (N : Nat) (a1 : Int32) (a2 : Int32) (a3 : Int32) (a4 : Int32) (h : MH) : Option (Int32 × MH) := F_M_few_0 N (L_M_few N N) a1 a2 a3 a4 h
def C_M_few (N : Nat) : MC := (KDL, false, (fun _ => 0), jsB, (fun j => match Nat.beq j 168 with
    | true => w_M_refuse (f_M_refuse N)
    | false => match Nat.beq j 169 with
    | true => w_M_gives (f_M_gives N)
    | false => match Nat.beq j 171 with
    | true => w_M_isTray (f_M_isTray N)
    | false => match Nat.beq j 261 with
    | true => w_Math_min_II (f_Math_min_II N)
    | false => fun _ _ => none), (fun _ _ _ => none), (fun _ _ _ => none), (fun _ _ _ => none))
def D_M_few (N : Nat) (n pc : Nat) (lv : ML) (st : List MV) (h : MH) : Option (Int32 × MH) :=
  match Nat.beq pc 0 with
  | true => (match lk lv 0, lk lv 1, lk lv 2, lk lv 3, lk lv 4, st with
    | some (.inr (.inr (0, 12, 68))), some (.inl a1), some (.inl a2), some (.inl a3), some (.inl a4), [] => F_M_few_0 N (L_M_few N n) a1 a2 a3 a4 h
    | _, _, _, _, _, _ => none)
  | false => match Nat.beq pc 77 with
  | true => (match lk lv 0, lk lv 1, lk lv 2, lk lv 3, lk lv 4, lk lv 5, st with
    | some (.inr (.inr (0, 12, 68))), some (.inl a1), some (.inl a2), some (.inl a3), some (.inl a4), some (.inl a5), [] => F_M_few_77 N (L_M_few N n) a1 a2 a3 a4 a5 h
    | _, _, _, _, _, _, _ => none)
  | false => match Nat.beq pc 134 with
  | true => (match lk lv 0, lk lv 1, lk lv 2, lk lv 3, lk lv 4, lk lv 5, st with
    | some (.inr (.inr (0, 12, 68))), some (.inl a1), some (.inl a2), some (.inl a3), some (.inl a4), some (.inl a5), [] => F_M_few_134 N (L_M_few N n) a1 a2 a3 a4 a5 h
    | _, _, _, _, _, _, _ => none)
  | false => match Nat.beq pc 169 with
  | true => (match lk lv 0, lk lv 2, lk lv 3, lk lv 4, lk lv 5, st with
    | some (.inr (.inr (0, 12, 68))), some (.inl a2), some (.inl a3), some (.inl a4), some (.inl a5), [] => F_M_few_169 N (L_M_few N n) a2 a3 a4 a5 h
    | _, _, _, _, _, _ => none)
  | false => match Nat.beq pc 177 with
  | true => (match lk lv 0, lk lv 2, lk lv 3, lk lv 4, lk lv 5, lk lv 6, st with
    | some (.inr (.inr (0, 12, 68))), some (.inl a2), some (.inl a3), some (.inl a4), some (.inl a5), some (.inl a6), [] => F_M_few_177 N (L_M_few N n) a2 a3 a4 a5 a6 h
    | _, _, _, _, _, _, _ => none)
  | false => match Nat.beq pc 222 with
  | true => (match lk lv 0, lk lv 2, lk lv 3, lk lv 4, lk lv 5, lk lv 6, st with
    | some (.inr (.inr (0, 12, 68))), some (.inl a2), some (.inl a3), some (.inl a4), some (.inl a5), some (.inl a6), [.inl as0] => F_M_few_222 N (L_M_few N n) a2 a3 a4 a5 a6 as0 h
    | _, _, _, _, _, _, _ => none)
  | false => match Nat.beq pc 273 with
  | true => (match lk lv 0, lk lv 2, lk lv 3, lk lv 4, lk lv 5, lk lv 6, lk lv 7, st with
    | some (.inr (.inr (0, 12, 68))), some (.inl a2), some (.inl a3), some (.inl a4), some (.inl a5), some (.inl a6), some (.inl a7), [] => F_M_few_273 N (L_M_few N n) a2 a3 a4 a5 a6 a7 h
    | _, _, _, _, _, _, _, _ => none)
  | false => match Nat.beq pc 307 with
  | true => (match lk lv 0, lk lv 2, lk lv 4, lk lv 5, lk lv 6, st with
    | some (.inr (.inr (0, 12, 68))), some (.inl a2), some (.inl a4), some (.inl a5), some (.inl a6), [] => F_M_few_307 N (L_M_few N n) a2 a4 a5 a6 h
    | _, _, _, _, _, _ => none)
  | false => match Nat.beq pc 393 with
  | true => (match lk lv 0, lk lv 2, lk lv 6, lk lv 7, lk lv 8, lk lv 9, st with
    | some (.inr (.inr (0, 12, 68))), some (.inl a2), some (.inl a6), some (.inl a7), some (.inl a8), some (.inl a9), [] => F_M_few_393 N (L_M_few N n) a2 a6 a7 a8 a9 h
    | _, _, _, _, _, _, _ => none)
  | false => match Nat.beq pc 402 with
  | true => (match lk lv 0, lk lv 2, lk lv 6, lk lv 7, lk lv 8, lk lv 9, lk lv 10, st with
    | some (.inr (.inr (0, 12, 68))), some (.inl a2), some (.inl a6), some (.inl a7), some (.inl a8), some (.inl a9), some (.inl a10), [] => F_M_few_402 N (L_M_few N n) a2 a6 a7 a8 a9 a10 h
    | _, _, _, _, _, _, _, _ => none)
  | false => none
def B_M_few (N : Nat) (n pc : Nat) (lv : ML) (st : List MV) (h : MH) : Option (Int32 × MH) :=
  match Nat.beq pc 77 with
  | true => (match lk lv 0, lk lv 1, lk lv 2, lk lv 3, lk lv 4, lk lv 5, st with
    | some (.inr (.inr (0, 12, 68))), some (.inl a1), some (.inl a2), some (.inl a3), some (.inl a4), some (.inl a5), [] => ((L_M_few N n).1) a1 a2 a3 a4 a5 h
    | _, _, _, _, _, _, _ => none)
  | false => match Nat.beq pc 134 with
  | true => (match lk lv 0, lk lv 1, lk lv 2, lk lv 3, lk lv 4, lk lv 5, st with
    | some (.inr (.inr (0, 12, 68))), some (.inl a1), some (.inl a2), some (.inl a3), some (.inl a4), some (.inl a5), [] => ((L_M_few N n).2.1) a1 a2 a3 a4 a5 h
    | _, _, _, _, _, _, _ => none)
  | false => match Nat.beq pc 169 with
  | true => (match lk lv 0, lk lv 2, lk lv 3, lk lv 4, lk lv 5, st with
    | some (.inr (.inr (0, 12, 68))), some (.inl a2), some (.inl a3), some (.inl a4), some (.inl a5), [] => ((L_M_few N n).2.2.1) a2 a3 a4 a5 h
    | _, _, _, _, _, _ => none)
  | false => match Nat.beq pc 177 with
  | true => (match lk lv 0, lk lv 2, lk lv 3, lk lv 4, lk lv 5, lk lv 6, st with
    | some (.inr (.inr (0, 12, 68))), some (.inl a2), some (.inl a3), some (.inl a4), some (.inl a5), some (.inl a6), [] => ((L_M_few N n).2.2.2.1) a2 a3 a4 a5 a6 h
    | _, _, _, _, _, _, _ => none)
  | false => match Nat.beq pc 307 with
  | true => (match lk lv 0, lk lv 2, lk lv 4, lk lv 5, lk lv 6, st with
    | some (.inr (.inr (0, 12, 68))), some (.inl a2), some (.inl a4), some (.inl a5), some (.inl a6), [] => ((L_M_few N n).2.2.2.2.1) a2 a4 a5 a6 h
    | _, _, _, _, _, _ => none)
  | false => match Nat.beq pc 393 with
  | true => (match lk lv 0, lk lv 2, lk lv 6, lk lv 7, lk lv 8, lk lv 9, st with
    | some (.inr (.inr (0, 12, 68))), some (.inl a2), some (.inl a6), some (.inl a7), some (.inl a8), some (.inl a9), [] => ((L_M_few N n).2.2.2.2.2.1) a2 a6 a7 a8 a9 h
    | _, _, _, _, _, _, _ => none)
  | false => match Nat.beq pc 402 with
  | true => (match lk lv 0, lk lv 2, lk lv 6, lk lv 7, lk lv 8, lk lv 9, lk lv 10, st with
    | some (.inr (.inr (0, 12, 68))), some (.inl a2), some (.inl a6), some (.inl a7), some (.inl a8), some (.inl a9), some (.inl a10), [] => ((L_M_few N n).2.2.2.2.2.2) a2 a6 a7 a8 a9 a10 h
    | _, _, _, _, _, _, _, _ => none)
  | false => none
set_option maxRecDepth 1000000 in
theorem E_M_few_0 (N : Nat) (n : Nat) (a1 : Int32) (a2 : Int32) (a3 : Int32) (a4 : Int32) (h : MH) : seg (C_M_few N) 11 0 rI T_M_few [0, 77, 134, 169, 177, 222, 273, 307, 393, 402] (fun q lv st h => match Nat.ble 1 q with
    | true => D_M_few N n q lv st h
    | false => B_M_few N n q lv st h) 400 true 0 [(0, .inr (.inr (0, 12, 68))), (1, .inl a1), (2, .inl a2), (3, .inl a3), (4, .inl a4)] [] h = F_M_few_0 N (L_M_few N n) a1 a2 a3 a4 h := (rfl)
set_option maxRecDepth 1000000 in
theorem E_M_few_77 (N : Nat) (n : Nat) (a1 : Int32) (a2 : Int32) (a3 : Int32) (a4 : Int32) (a5 : Int32) (h : MH) : seg (C_M_few N) 11 0 rI T_M_few [0, 77, 134, 169, 177, 222, 273, 307, 393, 402] (fun q lv st h => match Nat.ble 78 q with
    | true => D_M_few N n q lv st h
    | false => B_M_few N n q lv st h) 400 true 77 [(0, .inr (.inr (0, 12, 68))), (1, .inl a1), (2, .inl a2), (3, .inl a3), (4, .inl a4), (5, .inl a5)] [] h = F_M_few_77 N (L_M_few N n) a1 a2 a3 a4 a5 h := (rfl)
set_option maxRecDepth 1000000 in
theorem E_M_few_134 (N : Nat) (n : Nat) (a1 : Int32) (a2 : Int32) (a3 : Int32) (a4 : Int32) (a5 : Int32) (h : MH) : seg (C_M_few N) 11 0 rI T_M_few [0, 77, 134, 169, 177, 222, 273, 307, 393, 402] (fun q lv st h => match Nat.ble 135 q with
    | true => D_M_few N n q lv st h
    | false => B_M_few N n q lv st h) 400 true 134 [(0, .inr (.inr (0, 12, 68))), (1, .inl a1), (2, .inl a2), (3, .inl a3), (4, .inl a4), (5, .inl a5)] [] h = F_M_few_134 N (L_M_few N n) a1 a2 a3 a4 a5 h := (rfl)
set_option maxRecDepth 1000000 in
theorem E_M_few_169 (N : Nat) (n : Nat) (a2 : Int32) (a3 : Int32) (a4 : Int32) (a5 : Int32) (h : MH) : seg (C_M_few N) 11 0 rI T_M_few [0, 77, 134, 169, 177, 222, 273, 307, 393, 402] (fun q lv st h => match Nat.ble 170 q with
    | true => D_M_few N n q lv st h
    | false => B_M_few N n q lv st h) 400 true 169 [(0, .inr (.inr (0, 12, 68))), (2, .inl a2), (3, .inl a3), (4, .inl a4), (5, .inl a5)] [] h = F_M_few_169 N (L_M_few N n) a2 a3 a4 a5 h := (rfl)
set_option maxRecDepth 1000000 in
theorem E_M_few_177 (N : Nat) (n : Nat) (a2 : Int32) (a3 : Int32) (a4 : Int32) (a5 : Int32) (a6 : Int32) (h : MH) : seg (C_M_few N) 11 0 rI T_M_few [0, 77, 134, 169, 177, 222, 273, 307, 393, 402] (fun q lv st h => match Nat.ble 178 q with
    | true => D_M_few N n q lv st h
    | false => B_M_few N n q lv st h) 400 true 177 [(0, .inr (.inr (0, 12, 68))), (2, .inl a2), (3, .inl a3), (4, .inl a4), (5, .inl a5), (6, .inl a6)] [] h = F_M_few_177 N (L_M_few N n) a2 a3 a4 a5 a6 h := (rfl)
set_option maxRecDepth 1000000 in
theorem E_M_few_222 (N : Nat) (n : Nat) (a2 : Int32) (a3 : Int32) (a4 : Int32) (a5 : Int32) (a6 : Int32) (as0 : Int32) (h : MH) : seg (C_M_few N) 11 0 rI T_M_few [0, 77, 134, 169, 177, 222, 273, 307, 393, 402] (fun q lv st h => match Nat.ble 223 q with
    | true => D_M_few N n q lv st h
    | false => B_M_few N n q lv st h) 400 true 222 [(0, .inr (.inr (0, 12, 68))), (2, .inl a2), (3, .inl a3), (4, .inl a4), (5, .inl a5), (6, .inl a6)] [.inl as0] h = F_M_few_222 N (L_M_few N n) a2 a3 a4 a5 a6 as0 h := (rfl)
set_option maxRecDepth 1000000 in
theorem E_M_few_273 (N : Nat) (n : Nat) (a2 : Int32) (a3 : Int32) (a4 : Int32) (a5 : Int32) (a6 : Int32) (a7 : Int32) (h : MH) : seg (C_M_few N) 11 0 rI T_M_few [0, 77, 134, 169, 177, 222, 273, 307, 393, 402] (fun q lv st h => match Nat.ble 274 q with
    | true => D_M_few N n q lv st h
    | false => B_M_few N n q lv st h) 400 true 273 [(0, .inr (.inr (0, 12, 68))), (2, .inl a2), (3, .inl a3), (4, .inl a4), (5, .inl a5), (6, .inl a6), (7, .inl a7)] [] h = F_M_few_273 N (L_M_few N n) a2 a3 a4 a5 a6 a7 h := (rfl)
set_option maxRecDepth 1000000 in
theorem E_M_few_307 (N : Nat) (n : Nat) (a2 : Int32) (a4 : Int32) (a5 : Int32) (a6 : Int32) (h : MH) : seg (C_M_few N) 11 0 rI T_M_few [0, 77, 134, 169, 177, 222, 273, 307, 393, 402] (fun q lv st h => match Nat.ble 308 q with
    | true => D_M_few N n q lv st h
    | false => B_M_few N n q lv st h) 400 true 307 [(0, .inr (.inr (0, 12, 68))), (2, .inl a2), (4, .inl a4), (5, .inl a5), (6, .inl a6)] [] h = F_M_few_307 N (L_M_few N n) a2 a4 a5 a6 h := (rfl)
set_option maxRecDepth 1000000 in
theorem E_M_few_393 (N : Nat) (n : Nat) (a2 : Int32) (a6 : Int32) (a7 : Int32) (a8 : Int32) (a9 : Int32) (h : MH) : seg (C_M_few N) 11 0 rI T_M_few [0, 77, 134, 169, 177, 222, 273, 307, 393, 402] (fun q lv st h => match Nat.ble 394 q with
    | true => D_M_few N n q lv st h
    | false => B_M_few N n q lv st h) 400 true 393 [(0, .inr (.inr (0, 12, 68))), (2, .inl a2), (6, .inl a6), (7, .inl a7), (8, .inl a8), (9, .inl a9)] [] h = F_M_few_393 N (L_M_few N n) a2 a6 a7 a8 a9 h := (rfl)
set_option maxRecDepth 1000000 in
theorem E_M_few_402 (N : Nat) (n : Nat) (a2 : Int32) (a6 : Int32) (a7 : Int32) (a8 : Int32) (a9 : Int32) (a10 : Int32) (h : MH) : seg (C_M_few N) 11 0 rI T_M_few [0, 77, 134, 169, 177, 222, 273, 307, 393, 402] (fun q lv st h => match Nat.ble 403 q with
    | true => D_M_few N n q lv st h
    | false => B_M_few N n q lv st h) 400 true 402 [(0, .inr (.inr (0, 12, 68))), (2, .inl a2), (6, .inl a6), (7, .inl a7), (8, .inl a8), (9, .inl a9), (10, .inl a10)] [] h = F_M_few_402 N (L_M_few N n) a2 a6 a7 a8 a9 a10 h := (rfl)
def T_M_fewOf : List (List (Option RW)) := [
  [some (.iload_n 1, 1, [1], 0, 0), some (.ifCond .ge 11, 3, [12], 0, 0), none, none, some (.aload_n 0, 1, [0], 0, 0), some (.iconst 1, 1, [], 1, 0), some (.invokevirtual 342, 3, [0, 168, 2, 0], 0, 0), none, none, some (.goto 30, 3, [39], 0, 0), none, none, some (.iload_n 1, 1, [1], 0, 0), some (.aload_n 0, 1, [0], 0, 0), some (.getfield 490, 3, [12, 83, 0], 0, 0), none, none, some (.if_icmp .lt 12, 3, [29], 0, 0), none, none, some (.aload_n 0, 1, [0], 0, 0), some (.bipush 6, 2, [], 6, 0), none, some (.invokevirtual 342, 3, [0, 168, 2, 0], 0, 0), none, none, some (.goto 13, 3, [39], 0, 0), none, none, some (.aload_n 0, 1, [0], 0, 0), some (.aload_n 0, 1, [0], 0, 0), some (.getfield 168, 3, [12, 82, 2, 1, 8, 46], 0, 0)],
  [none, none, some (.iload_n 1, 1, [1], 0, 0), some (.iaload, 1, [], 0, 0), some (.invokevirtual 180, 3, [0, 169, 2, 0], 0, 0), none, none, some (.ireturn, 1, [], 0, 0)]]
def f_M_fewOf (N : Nat) (a1 : Int32) (h : MH) : Option (Int32 × MH) :=
  if 0 ≤ a1 then
  (if a1 < (gI h 68 83) then
  (if inB a1 8 = true then
  ((f_M_gives N (gI h 114 (iN a1)) h).bind (fun x1 =>
  some (x1.1, x1.2)))
  else none)
  else
  ((f_M_refuse N 6 h).bind (fun x2 =>
  some (x2.1, x2.2))))
  else
  ((f_M_refuse N 1 h).bind (fun x3 =>
  some (x3.1, x3.2)))
def C_M_fewOf (N : Nat) : MC := (KDL, false, (fun _ => 0), jsB, (fun j => match Nat.beq j 168 with
    | true => w_M_refuse (f_M_refuse N)
    | false => match Nat.beq j 169 with
    | true => w_M_gives (f_M_gives N)
    | false => fun _ _ => none), (fun _ _ _ => none), (fun _ _ _ => none), (fun _ _ _ => none))
def D_M_fewOf (N : Nat) (n pc : Nat) (lv : ML) (st : List MV) (h : MH) : Option (Int32 × MH) :=
  match Nat.beq pc 0 with
  | true => (match lk lv 0, lk lv 1, st with
    | some (.inr (.inr (0, 12, 68))), some (.inl a1), [] => f_M_fewOf N a1 h
    | _, _, _ => none)
  | false => none
set_option maxRecDepth 1000000 in
theorem E_M_fewOf_0 (N : Nat) (n : Nat) (a1 : Int32) (h : MH) : seg (C_M_fewOf N) 2 0 rI T_M_fewOf [0] (fun q lv st h => match Nat.ble 1 q with
    | true => D_M_fewOf N n q lv st h
    | false => none) 400 true 0 [(0, .inr (.inr (0, 12, 68))), (1, .inl a1)] [] h = f_M_fewOf N a1 h := (rfl)
def T_Law_law : List (List (Option RW)) := [
  [some (.new 7, 3, [11], 0, 0), none, none, some (.dup, 1, [], 0, 0), some (.invokespecial 9, 3, [4, 108, 1, 3], 0, 0), none, none, some (.astore_n 1, 1, [1], 0, 0), some (.new 10, 3, [12], 0, 0), none, none, some (.dup, 1, [], 0, 0), some (.invokespecial 12, 3, [4, 163, 1, 3], 0, 0), none, none, some (.astore_n 2, 1, [2], 0, 0), some (.iconst 0, 1, [], 0, 0), some (.istore_n 3, 1, [3], 0, 0), some (.iload_n 3, 1, [3], 0, 0), some (.aload_n 0, 1, [0], 0, 0), some (.arraylength, 1, [], 0, 0), some (.bipush 6, 2, [], 6, 0), none, some (.isub, 1, [], 0, 0), some (.if_icmp .gt 1498, 3, [1522], 0, 0), none, none, some (.aload_n 0, 1, [0], 0, 0), some (.iload_n 3, 1, [3], 0, 0), some (.iaload, 1, [], 0, 0), some (.bipush 63, 2, [], 63, 0), none],
  [some (.iand, 1, [], 0, 0), some (.tableswitch 1483 0 34 #[155, 168, 182, 196, 239, 312, 346, 409, 472, 495, 518, 541, 574, 637, 680, 703, 746, 799, 822, 875, 898, 931, 984, 1027, 1060, 1103, 1146, 1179, 1212, 1265, 1308, 1351, 1384, 1407, 1460], 155, [1516, 188, 201, 215, 229, 272, 345, 379, 442, 505, 528, 551, 574, 607, 670, 713, 736, 779, 832, 855, 908, 931, 964, 1017, 1060, 1093, 1136, 1179, 1212, 1245, 1298, 1341, 1384, 1417, 1440, 1493], 0, 0), none, none, none, none, none, none, none, none, none, none, none, none, none, none, none, none, none, none, none, none, none, none, none, none, none, none, none, none, none, none],
  [none, none, none, none, none, none, none, none, none, none, none, none, none, none, none, none, none, none, none, none, none, none, none, none, none, none, none, none, none, none, none, none],
  [none, none, none, none, none, none, none, none, none, none, none, none, none, none, none, none, none, none, none, none, none, none, none, none, none, none, none, none, none, none, none, none],
  [none, none, none, none, none, none, none, none, none, none, none, none, none, none, none, none, none, none, none, none, none, none, none, none, none, none, none, none, none, none, none, none],
  [none, none, none, none, none, none, none, none, none, none, none, none, none, none, none, none, none, none, none, none, none, none, none, none, none, none, none, none, some (.aload_n 1, 1, [1], 0, 0), some (.invokevirtual 13, 3, [0, 109, 1, 0], 0, 0), none, none],
  [some (.aload_n 2, 1, [2], 0, 0), some (.invokevirtual 17, 3, [0, 164, 1, 0], 0, 0), none, none, some (.if_icmp .eq 1320, 3, [1516], 0, 0), none, none, some (.iconst 0, 1, [], 0, 0), some (.ireturn, 1, [], 0, 0), some (.aload_n 1, 1, [1], 0, 0), some (.invokevirtual 18, 3, [0, 110, 1, 1], 0, 0), none, none, some (.aload_n 2, 1, [2], 0, 0), some (.invokevirtual 22, 3, [0, 165, 1, 1], 0, 0), none, none, some (.lcmp, 1, [], 0, 0), some (.ifCond .eq 1306, 3, [1516], 0, 0), none, none, some (.iconst 0, 1, [], 0, 0), some (.ireturn, 1, [], 0, 0), some (.aload_n 1, 1, [1], 0, 0), some (.invokevirtual 23, 3, [0, 111, 1, 1], 0, 0), none, none, some (.aload_n 2, 1, [2], 0, 0), some (.invokevirtual 26, 3, [0, 166, 1, 1], 0, 0), none, none, some (.lcmp, 1, [], 0, 0)],
  [some (.ifCond .eq 1292, 3, [1516], 0, 0), none, none, some (.iconst 0, 1, [], 0, 0), some (.ireturn, 1, [], 0, 0), some (.aload_n 1, 1, [1], 0, 0), some (.aload_n 0, 1, [0], 0, 0), some (.iload_n 3, 1, [3], 0, 0), some (.iconst 1, 1, [], 1, 0), some (.iadd, 1, [], 0, 0), some (.iaload, 1, [], 0, 0), some (.aload_n 0, 1, [0], 0, 0), some (.iload_n 3, 1, [3], 0, 0), some (.iconst 2, 1, [], 2, 0), some (.iadd, 1, [], 0, 0), some (.iaload, 1, [], 0, 0), some (.aload_n 0, 1, [0], 0, 0), some (.iload_n 3, 1, [3], 0, 0), some (.iconst 3, 1, [], 3, 0), some (.iadd, 1, [], 0, 0), some (.iaload, 1, [], 0, 0), some (.invokevirtual 27, 3, [0, 112, 4, 0], 0, 0), none, none, some (.aload_n 2, 1, [2], 0, 0), some (.aload_n 0, 1, [0], 0, 0), some (.iload_n 3, 1, [3], 0, 0), some (.iconst 1, 1, [], 1, 0), some (.iadd, 1, [], 0, 0), some (.iaload, 1, [], 0, 0), some (.aload_n 0, 1, [0], 0, 0), some (.iload_n 3, 1, [3], 0, 0)],
  [some (.iconst 2, 1, [], 2, 0), some (.iadd, 1, [], 0, 0), some (.iaload, 1, [], 0, 0), some (.aload_n 0, 1, [0], 0, 0), some (.iload_n 3, 1, [3], 0, 0), some (.iconst 3, 1, [], 3, 0), some (.iadd, 1, [], 0, 0), some (.iaload, 1, [], 0, 0), some (.invokevirtual 31, 3, [0, 173, 4, 0], 0, 0), none, none, some (.if_icmp .eq 1249, 3, [1516], 0, 0), none, none, some (.iconst 0, 1, [], 0, 0), some (.ireturn, 1, [], 0, 0), some (.aload_n 1, 1, [1], 0, 0), some (.aload_n 0, 1, [0], 0, 0), some (.iload_n 3, 1, [3], 0, 0), some (.iconst 1, 1, [], 1, 0), some (.iadd, 1, [], 0, 0), some (.iaload, 1, [], 0, 0), some (.aload_n 0, 1, [0], 0, 0), some (.iload_n 3, 1, [3], 0, 0), some (.iconst 2, 1, [], 2, 0), some (.iadd, 1, [], 0, 0), some (.iaload, 1, [], 0, 0), some (.aload_n 0, 1, [0], 0, 0), some (.iload_n 3, 1, [3], 0, 0), some (.iconst 3, 1, [], 3, 0), some (.iadd, 1, [], 0, 0), some (.iaload, 1, [], 0, 0)],
  [some (.i2l, 1, [], 0, 0), some (.bipush 32, 2, [], 32, 0), none, some (.lshl, 1, [], 0, 0), some (.aload_n 0, 1, [0], 0, 0), some (.iload_n 3, 1, [3], 0, 0), some (.iconst 4, 1, [], 4, 0), some (.iadd, 1, [], 0, 0), some (.iaload, 1, [], 0, 0), some (.i2l, 1, [], 0, 0), some (.ldc2_w 32, 3, [], 0, 4294967295), none, none, some (.land, 1, [], 0, 0), some (.lor, 1, [], 0, 0), some (.invokevirtual 34, 3, [0, 113, 4, 0], 0, 0), none, none, some (.aload_n 2, 1, [2], 0, 0), some (.aload_n 0, 1, [0], 0, 0), some (.iload_n 3, 1, [3], 0, 0), some (.iconst 1, 1, [], 1, 0), some (.iadd, 1, [], 0, 0), some (.iaload, 1, [], 0, 0), some (.aload_n 0, 1, [0], 0, 0), some (.iload_n 3, 1, [3], 0, 0), some (.iconst 2, 1, [], 2, 0), some (.iadd, 1, [], 0, 0), some (.iaload, 1, [], 0, 0), some (.aload_n 0, 1, [0], 0, 0), some (.iload_n 3, 1, [3], 0, 0), some (.iconst 3, 1, [], 3, 0)],
  [some (.iadd, 1, [], 0, 0), some (.iaload, 1, [], 0, 0), some (.i2l, 1, [], 0, 0), some (.bipush 32, 2, [], 32, 0), none, some (.lshl, 1, [], 0, 0), some (.aload_n 0, 1, [0], 0, 0), some (.iload_n 3, 1, [3], 0, 0), some (.iconst 4, 1, [], 4, 0), some (.iadd, 1, [], 0, 0), some (.iaload, 1, [], 0, 0), some (.i2l, 1, [], 0, 0), some (.ldc2_w 32, 3, [], 0, 4294967295), none, none, some (.land, 1, [], 0, 0), some (.lor, 1, [], 0, 0), some (.invokevirtual 38, 3, [0, 175, 4, 0], 0, 0), none, none, some (.if_icmp .eq 1176, 3, [1516], 0, 0), none, none, some (.iconst 0, 1, [], 0, 0), some (.ireturn, 1, [], 0, 0), some (.aload_n 1, 1, [1], 0, 0), some (.aload_n 0, 1, [0], 0, 0), some (.iload_n 3, 1, [3], 0, 0), some (.iconst 1, 1, [], 1, 0), some (.iadd, 1, [], 0, 0), some (.iaload, 1, [], 0, 0), some (.aload_n 0, 1, [0], 0, 0)],
  [some (.iload_n 3, 1, [3], 0, 0), some (.iconst 2, 1, [], 2, 0), some (.iadd, 1, [], 0, 0), some (.iaload, 1, [], 0, 0), some (.invokevirtual 39, 3, [0, 114, 3, 1], 0, 0), none, none, some (.aload_n 2, 1, [2], 0, 0), some (.aload_n 0, 1, [0], 0, 0), some (.iload_n 3, 1, [3], 0, 0), some (.iconst 1, 1, [], 1, 0), some (.iadd, 1, [], 0, 0), some (.iaload, 1, [], 0, 0), some (.aload_n 0, 1, [0], 0, 0), some (.iload_n 3, 1, [3], 0, 0), some (.iconst 2, 1, [], 2, 0), some (.iadd, 1, [], 0, 0), some (.iaload, 1, [], 0, 0), some (.invokevirtual 43, 3, [0, 176, 3, 1], 0, 0), none, none, some (.lcmp, 1, [], 0, 0), some (.ifCond .eq 1142, 3, [1516], 0, 0), none, none, some (.iconst 0, 1, [], 0, 0), some (.ireturn, 1, [], 0, 0), some (.aload_n 1, 1, [1], 0, 0), some (.aload_n 0, 1, [0], 0, 0), some (.iload_n 3, 1, [3], 0, 0), some (.iconst 1, 1, [], 1, 0), some (.iadd, 1, [], 0, 0)],
  [some (.iaload, 1, [], 0, 0), some (.aload_n 0, 1, [0], 0, 0), some (.iload_n 3, 1, [3], 0, 0), some (.iconst 2, 1, [], 2, 0), some (.iadd, 1, [], 0, 0), some (.iaload, 1, [], 0, 0), some (.aload_n 0, 1, [0], 0, 0), some (.iload_n 3, 1, [3], 0, 0), some (.iconst 3, 1, [], 3, 0), some (.iadd, 1, [], 0, 0), some (.iaload, 1, [], 0, 0), some (.aload_n 0, 1, [0], 0, 0), some (.iload_n 3, 1, [3], 0, 0), some (.iconst 4, 1, [], 4, 0), some (.iadd, 1, [], 0, 0), some (.iaload, 1, [], 0, 0), some (.aload_n 0, 1, [0], 0, 0), some (.iload_n 3, 1, [3], 0, 0), some (.iconst 5, 1, [], 5, 0), some (.iadd, 1, [], 0, 0), some (.iaload, 1, [], 0, 0), some (.invokevirtual 44, 3, [0, 115, 6, 0], 0, 0), none, none, some (.aload_n 2, 1, [2], 0, 0), some (.aload_n 0, 1, [0], 0, 0), some (.iload_n 3, 1, [3], 0, 0), some (.iconst 1, 1, [], 1, 0), some (.iadd, 1, [], 0, 0), some (.iaload, 1, [], 0, 0), some (.aload_n 0, 1, [0], 0, 0), some (.iload_n 3, 1, [3], 0, 0)],
  [some (.iconst 2, 1, [], 2, 0), some (.iadd, 1, [], 0, 0), some (.iaload, 1, [], 0, 0), some (.aload_n 0, 1, [0], 0, 0), some (.iload_n 3, 1, [3], 0, 0), some (.iconst 3, 1, [], 3, 0), some (.iadd, 1, [], 0, 0), some (.iaload, 1, [], 0, 0), some (.aload_n 0, 1, [0], 0, 0), some (.iload_n 3, 1, [3], 0, 0), some (.iconst 4, 1, [], 4, 0), some (.iadd, 1, [], 0, 0), some (.iaload, 1, [], 0, 0), some (.aload_n 0, 1, [0], 0, 0), some (.iload_n 3, 1, [3], 0, 0), some (.iconst 5, 1, [], 5, 0), some (.iadd, 1, [], 0, 0), some (.iaload, 1, [], 0, 0), some (.invokevirtual 48, 3, [0, 177, 6, 0], 0, 0), none, none, some (.if_icmp .eq 1079, 3, [1516], 0, 0), none, none, some (.iconst 0, 1, [], 0, 0), some (.ireturn, 1, [], 0, 0), some (.aload_n 1, 1, [1], 0, 0), some (.aload_n 0, 1, [0], 0, 0), some (.iload_n 3, 1, [3], 0, 0), some (.iconst 1, 1, [], 1, 0), some (.iadd, 1, [], 0, 0), some (.iaload, 1, [], 0, 0)],
  [some (.aload_n 0, 1, [0], 0, 0), some (.iload_n 3, 1, [3], 0, 0), some (.iconst 2, 1, [], 2, 0), some (.iadd, 1, [], 0, 0), some (.iaload, 1, [], 0, 0), some (.aload_n 0, 1, [0], 0, 0), some (.iload_n 3, 1, [3], 0, 0), some (.iconst 3, 1, [], 3, 0), some (.iadd, 1, [], 0, 0), some (.iaload, 1, [], 0, 0), some (.aload_n 0, 1, [0], 0, 0), some (.iload_n 3, 1, [3], 0, 0), some (.iconst 4, 1, [], 4, 0), some (.iadd, 1, [], 0, 0), some (.iaload, 1, [], 0, 0), some (.aload_n 0, 1, [0], 0, 0), some (.iload_n 3, 1, [3], 0, 0), some (.iconst 5, 1, [], 5, 0), some (.iadd, 1, [], 0, 0), some (.iaload, 1, [], 0, 0), some (.invokevirtual 49, 3, [0, 116, 6, 0], 0, 0), none, none, some (.aload_n 2, 1, [2], 0, 0), some (.aload_n 0, 1, [0], 0, 0), some (.iload_n 3, 1, [3], 0, 0), some (.iconst 1, 1, [], 1, 0), some (.iadd, 1, [], 0, 0), some (.iaload, 1, [], 0, 0), some (.aload_n 0, 1, [0], 0, 0), some (.iload_n 3, 1, [3], 0, 0), some (.iconst 2, 1, [], 2, 0)],
  [some (.iadd, 1, [], 0, 0), some (.iaload, 1, [], 0, 0), some (.aload_n 0, 1, [0], 0, 0), some (.iload_n 3, 1, [3], 0, 0), some (.iconst 3, 1, [], 3, 0), some (.iadd, 1, [], 0, 0), some (.iaload, 1, [], 0, 0), some (.aload_n 0, 1, [0], 0, 0), some (.iload_n 3, 1, [3], 0, 0), some (.iconst 4, 1, [], 4, 0), some (.iadd, 1, [], 0, 0), some (.iaload, 1, [], 0, 0), some (.aload_n 0, 1, [0], 0, 0), some (.iload_n 3, 1, [3], 0, 0), some (.iconst 5, 1, [], 5, 0), some (.iadd, 1, [], 0, 0), some (.iaload, 1, [], 0, 0), some (.invokevirtual 53, 3, [0, 178, 6, 0], 0, 0), none, none, some (.if_icmp .eq 1016, 3, [1516], 0, 0), none, none, some (.iconst 0, 1, [], 0, 0), some (.ireturn, 1, [], 0, 0), some (.aload_n 1, 1, [1], 0, 0), some (.aload_n 0, 1, [0], 0, 0), some (.iload_n 3, 1, [3], 0, 0), some (.iconst 1, 1, [], 1, 0), some (.iadd, 1, [], 0, 0), some (.iaload, 1, [], 0, 0), some (.invokevirtual 54, 3, [0, 117, 2, 0], 0, 0)],
  [none, none, some (.aload_n 2, 1, [2], 0, 0), some (.aload_n 0, 1, [0], 0, 0), some (.iload_n 3, 1, [3], 0, 0), some (.iconst 1, 1, [], 1, 0), some (.iadd, 1, [], 0, 0), some (.iaload, 1, [], 0, 0), some (.invokevirtual 58, 3, [0, 203, 2, 0], 0, 0), none, none, some (.if_icmp .eq 993, 3, [1516], 0, 0), none, none, some (.iconst 0, 1, [], 0, 0), some (.ireturn, 1, [], 0, 0), some (.aload_n 1, 1, [1], 0, 0), some (.aload_n 0, 1, [0], 0, 0), some (.iload_n 3, 1, [3], 0, 0), some (.iconst 1, 1, [], 1, 0), some (.iadd, 1, [], 0, 0), some (.iaload, 1, [], 0, 0), some (.invokevirtual 59, 3, [0, 118, 2, 0], 0, 0), none, none, some (.aload_n 2, 1, [2], 0, 0), some (.aload_n 0, 1, [0], 0, 0), some (.iload_n 3, 1, [3], 0, 0), some (.iconst 1, 1, [], 1, 0), some (.iadd, 1, [], 0, 0), some (.iaload, 1, [], 0, 0), some (.invokevirtual 62, 3, [0, 204, 2, 0], 0, 0)],
  [none, none, some (.if_icmp .eq 970, 3, [1516], 0, 0), none, none, some (.iconst 0, 1, [], 0, 0), some (.ireturn, 1, [], 0, 0), some (.aload_n 1, 1, [1], 0, 0), some (.aload_n 0, 1, [0], 0, 0), some (.iload_n 3, 1, [3], 0, 0), some (.iconst 1, 1, [], 1, 0), some (.iadd, 1, [], 0, 0), some (.iaload, 1, [], 0, 0), some (.invokevirtual 63, 3, [0, 119, 2, 0], 0, 0), none, none, some (.aload_n 2, 1, [2], 0, 0), some (.aload_n 0, 1, [0], 0, 0), some (.iload_n 3, 1, [3], 0, 0), some (.iconst 1, 1, [], 1, 0), some (.iadd, 1, [], 0, 0), some (.iaload, 1, [], 0, 0), some (.invokevirtual 66, 3, [0, 207, 2, 0], 0, 0), none, none, some (.if_icmp .eq 947, 3, [1516], 0, 0), none, none, some (.iconst 0, 1, [], 0, 0), some (.ireturn, 1, [], 0, 0), some (.aload_n 1, 1, [1], 0, 0), some (.aload_n 0, 1, [0], 0, 0)],
  [some (.iload_n 3, 1, [3], 0, 0), some (.iconst 1, 1, [], 1, 0), some (.iadd, 1, [], 0, 0), some (.iaload, 1, [], 0, 0), some (.aload_n 0, 1, [0], 0, 0), some (.iload_n 3, 1, [3], 0, 0), some (.iconst 2, 1, [], 2, 0), some (.iadd, 1, [], 0, 0), some (.iaload, 1, [], 0, 0), some (.invokevirtual 67, 3, [0, 120, 3, 0], 0, 0), none, none, some (.aload_n 2, 1, [2], 0, 0), some (.aload_n 0, 1, [0], 0, 0), some (.iload_n 3, 1, [3], 0, 0), some (.iconst 1, 1, [], 1, 0), some (.iadd, 1, [], 0, 0), some (.iaload, 1, [], 0, 0), some (.aload_n 0, 1, [0], 0, 0), some (.iload_n 3, 1, [3], 0, 0), some (.iconst 2, 1, [], 2, 0), some (.iadd, 1, [], 0, 0), some (.iaload, 1, [], 0, 0), some (.invokevirtual 71, 3, [0, 208, 3, 0], 0, 0), none, none, some (.if_icmp .eq 914, 3, [1516], 0, 0), none, none, some (.iconst 0, 1, [], 0, 0), some (.ireturn, 1, [], 0, 0), some (.aload_n 1, 1, [1], 0, 0)],
  [some (.aload_n 0, 1, [0], 0, 0), some (.iload_n 3, 1, [3], 0, 0), some (.iconst 1, 1, [], 1, 0), some (.iadd, 1, [], 0, 0), some (.iaload, 1, [], 0, 0), some (.aload_n 0, 1, [0], 0, 0), some (.iload_n 3, 1, [3], 0, 0), some (.iconst 2, 1, [], 2, 0), some (.iadd, 1, [], 0, 0), some (.iaload, 1, [], 0, 0), some (.aload_n 0, 1, [0], 0, 0), some (.iload_n 3, 1, [3], 0, 0), some (.iconst 3, 1, [], 3, 0), some (.iadd, 1, [], 0, 0), some (.iaload, 1, [], 0, 0), some (.aload_n 0, 1, [0], 0, 0), some (.iload_n 3, 1, [3], 0, 0), some (.iconst 4, 1, [], 4, 0), some (.iadd, 1, [], 0, 0), some (.iaload, 1, [], 0, 0), some (.aload_n 0, 1, [0], 0, 0), some (.iload_n 3, 1, [3], 0, 0), some (.iconst 5, 1, [], 5, 0), some (.iadd, 1, [], 0, 0), some (.iaload, 1, [], 0, 0), some (.invokevirtual 72, 3, [0, 121, 6, 0], 0, 0), none, none, some (.aload_n 2, 1, [2], 0, 0), some (.aload_n 0, 1, [0], 0, 0), some (.iload_n 3, 1, [3], 0, 0), some (.iconst 1, 1, [], 1, 0)],
  [some (.iadd, 1, [], 0, 0), some (.iaload, 1, [], 0, 0), some (.aload_n 0, 1, [0], 0, 0), some (.iload_n 3, 1, [3], 0, 0), some (.iconst 2, 1, [], 2, 0), some (.iadd, 1, [], 0, 0), some (.iaload, 1, [], 0, 0), some (.aload_n 0, 1, [0], 0, 0), some (.iload_n 3, 1, [3], 0, 0), some (.iconst 3, 1, [], 3, 0), some (.iadd, 1, [], 0, 0), some (.iaload, 1, [], 0, 0), some (.aload_n 0, 1, [0], 0, 0), some (.iload_n 3, 1, [3], 0, 0), some (.iconst 4, 1, [], 4, 0), some (.iadd, 1, [], 0, 0), some (.iaload, 1, [], 0, 0), some (.aload_n 0, 1, [0], 0, 0), some (.iload_n 3, 1, [3], 0, 0), some (.iconst 5, 1, [], 5, 0), some (.iadd, 1, [], 0, 0), some (.iaload, 1, [], 0, 0), some (.invokevirtual 75, 3, [0, 212, 6, 0], 0, 0), none, none, some (.if_icmp .eq 851, 3, [1516], 0, 0), none, none, some (.iconst 0, 1, [], 0, 0), some (.ireturn, 1, [], 0, 0), some (.aload_n 1, 1, [1], 0, 0), some (.aload_n 0, 1, [0], 0, 0)],
  [some (.iload_n 3, 1, [3], 0, 0), some (.iconst 1, 1, [], 1, 0), some (.iadd, 1, [], 0, 0), some (.iaload, 1, [], 0, 0), some (.aload_n 0, 1, [0], 0, 0), some (.iload_n 3, 1, [3], 0, 0), some (.iconst 2, 1, [], 2, 0), some (.iadd, 1, [], 0, 0), some (.iaload, 1, [], 0, 0), some (.aload_n 0, 1, [0], 0, 0), some (.iload_n 3, 1, [3], 0, 0), some (.iconst 3, 1, [], 3, 0), some (.iadd, 1, [], 0, 0), some (.iaload, 1, [], 0, 0), some (.invokevirtual 76, 3, [0, 122, 4, 0], 0, 0), none, none, some (.aload_n 2, 1, [2], 0, 0), some (.aload_n 0, 1, [0], 0, 0), some (.iload_n 3, 1, [3], 0, 0), some (.iconst 1, 1, [], 1, 0), some (.iadd, 1, [], 0, 0), some (.iaload, 1, [], 0, 0), some (.aload_n 0, 1, [0], 0, 0), some (.iload_n 3, 1, [3], 0, 0), some (.iconst 2, 1, [], 2, 0), some (.iadd, 1, [], 0, 0), some (.iaload, 1, [], 0, 0), some (.aload_n 0, 1, [0], 0, 0), some (.iload_n 3, 1, [3], 0, 0), some (.iconst 3, 1, [], 3, 0), some (.iadd, 1, [], 0, 0)],
  [some (.iaload, 1, [], 0, 0), some (.invokevirtual 79, 3, [0, 213, 4, 0], 0, 0), none, none, some (.if_icmp .eq 808, 3, [1516], 0, 0), none, none, some (.iconst 0, 1, [], 0, 0), some (.ireturn, 1, [], 0, 0), some (.aload_n 1, 1, [1], 0, 0), some (.aload_n 0, 1, [0], 0, 0), some (.iload_n 3, 1, [3], 0, 0), some (.iconst 1, 1, [], 1, 0), some (.iadd, 1, [], 0, 0), some (.iaload, 1, [], 0, 0), some (.invokevirtual 80, 3, [0, 123, 2, 0], 0, 0), none, none, some (.aload_n 2, 1, [2], 0, 0), some (.aload_n 0, 1, [0], 0, 0), some (.iload_n 3, 1, [3], 0, 0), some (.iconst 1, 1, [], 1, 0), some (.iadd, 1, [], 0, 0), some (.iaload, 1, [], 0, 0), some (.invokevirtual 84, 3, [0, 214, 2, 0], 0, 0), none, none, some (.if_icmp .eq 785, 3, [1516], 0, 0), none, none, some (.iconst 0, 1, [], 0, 0), some (.ireturn, 1, [], 0, 0)],
  [some (.aload_n 1, 1, [1], 0, 0), some (.aload_n 0, 1, [0], 0, 0), some (.iload_n 3, 1, [3], 0, 0), some (.iconst 1, 1, [], 1, 0), some (.iadd, 1, [], 0, 0), some (.iaload, 1, [], 0, 0), some (.aload_n 0, 1, [0], 0, 0), some (.iload_n 3, 1, [3], 0, 0), some (.iconst 2, 1, [], 2, 0), some (.iadd, 1, [], 0, 0), some (.iaload, 1, [], 0, 0), some (.aload_n 0, 1, [0], 0, 0), some (.iload_n 3, 1, [3], 0, 0), some (.iconst 3, 1, [], 3, 0), some (.iadd, 1, [], 0, 0), some (.iaload, 1, [], 0, 0), some (.invokevirtual 85, 3, [0, 124, 4, 0], 0, 0), none, none, some (.aload_n 2, 1, [2], 0, 0), some (.aload_n 0, 1, [0], 0, 0), some (.iload_n 3, 1, [3], 0, 0), some (.iconst 1, 1, [], 1, 0), some (.iadd, 1, [], 0, 0), some (.iaload, 1, [], 0, 0), some (.aload_n 0, 1, [0], 0, 0), some (.iload_n 3, 1, [3], 0, 0), some (.iconst 2, 1, [], 2, 0), some (.iadd, 1, [], 0, 0), some (.iaload, 1, [], 0, 0), some (.aload_n 0, 1, [0], 0, 0), some (.iload_n 3, 1, [3], 0, 0)],
  [some (.iconst 3, 1, [], 3, 0), some (.iadd, 1, [], 0, 0), some (.iaload, 1, [], 0, 0), some (.invokevirtual 89, 3, [0, 217, 4, 0], 0, 0), none, none, some (.if_icmp .eq 742, 3, [1516], 0, 0), none, none, some (.iconst 0, 1, [], 0, 0), some (.ireturn, 1, [], 0, 0), some (.aload_n 1, 1, [1], 0, 0), some (.aload_n 0, 1, [0], 0, 0), some (.iload_n 3, 1, [3], 0, 0), some (.iconst 1, 1, [], 1, 0), some (.iadd, 1, [], 0, 0), some (.iaload, 1, [], 0, 0), some (.aload_n 0, 1, [0], 0, 0), some (.iload_n 3, 1, [3], 0, 0), some (.iconst 2, 1, [], 2, 0), some (.iadd, 1, [], 0, 0), some (.iaload, 1, [], 0, 0), some (.aload_n 0, 1, [0], 0, 0), some (.iload_n 3, 1, [3], 0, 0), some (.iconst 3, 1, [], 3, 0), some (.iadd, 1, [], 0, 0), some (.iaload, 1, [], 0, 0), some (.aload_n 0, 1, [0], 0, 0), some (.iload_n 3, 1, [3], 0, 0), some (.iconst 4, 1, [], 4, 0), some (.iadd, 1, [], 0, 0), some (.iaload, 1, [], 0, 0)],
  [some (.invokevirtual 90, 3, [0, 125, 5, 0], 0, 0), none, none, some (.aload_n 2, 1, [2], 0, 0), some (.aload_n 0, 1, [0], 0, 0), some (.iload_n 3, 1, [3], 0, 0), some (.iconst 1, 1, [], 1, 0), some (.iadd, 1, [], 0, 0), some (.iaload, 1, [], 0, 0), some (.aload_n 0, 1, [0], 0, 0), some (.iload_n 3, 1, [3], 0, 0), some (.iconst 2, 1, [], 2, 0), some (.iadd, 1, [], 0, 0), some (.iaload, 1, [], 0, 0), some (.aload_n 0, 1, [0], 0, 0), some (.iload_n 3, 1, [3], 0, 0), some (.iconst 3, 1, [], 3, 0), some (.iadd, 1, [], 0, 0), some (.iaload, 1, [], 0, 0), some (.aload_n 0, 1, [0], 0, 0), some (.iload_n 3, 1, [3], 0, 0), some (.iconst 4, 1, [], 4, 0), some (.iadd, 1, [], 0, 0), some (.iaload, 1, [], 0, 0), some (.invokevirtual 94, 3, [0, 222, 5, 0], 0, 0), none, none, some (.if_icmp .eq 689, 3, [1516], 0, 0), none, none, some (.iconst 0, 1, [], 0, 0), some (.ireturn, 1, [], 0, 0)],
  [some (.aload_n 1, 1, [1], 0, 0), some (.aload_n 0, 1, [0], 0, 0), some (.iload_n 3, 1, [3], 0, 0), some (.iconst 1, 1, [], 1, 0), some (.iadd, 1, [], 0, 0), some (.iaload, 1, [], 0, 0), some (.invokevirtual 95, 3, [0, 126, 2, 0], 0, 0), none, none, some (.aload_n 2, 1, [2], 0, 0), some (.aload_n 0, 1, [0], 0, 0), some (.iload_n 3, 1, [3], 0, 0), some (.iconst 1, 1, [], 1, 0), some (.iadd, 1, [], 0, 0), some (.iaload, 1, [], 0, 0), some (.invokevirtual 98, 3, [0, 223, 2, 0], 0, 0), none, none, some (.if_icmp .eq 666, 3, [1516], 0, 0), none, none, some (.iconst 0, 1, [], 0, 0), some (.ireturn, 1, [], 0, 0), some (.aload_n 1, 1, [1], 0, 0), some (.aload_n 0, 1, [0], 0, 0), some (.iload_n 3, 1, [3], 0, 0), some (.iconst 1, 1, [], 1, 0), some (.iadd, 1, [], 0, 0), some (.iaload, 1, [], 0, 0), some (.aload_n 0, 1, [0], 0, 0), some (.iload_n 3, 1, [3], 0, 0), some (.iconst 2, 1, [], 2, 0)],
  [some (.iadd, 1, [], 0, 0), some (.iaload, 1, [], 0, 0), some (.aload_n 0, 1, [0], 0, 0), some (.iload_n 3, 1, [3], 0, 0), some (.iconst 3, 1, [], 3, 0), some (.iadd, 1, [], 0, 0), some (.iaload, 1, [], 0, 0), some (.aload_n 0, 1, [0], 0, 0), some (.iload_n 3, 1, [3], 0, 0), some (.iconst 4, 1, [], 4, 0), some (.iadd, 1, [], 0, 0), some (.iaload, 1, [], 0, 0), some (.invokevirtual 99, 3, [0, 127, 5, 0], 0, 0), none, none, some (.aload_n 2, 1, [2], 0, 0), some (.aload_n 0, 1, [0], 0, 0), some (.iload_n 3, 1, [3], 0, 0), some (.iconst 1, 1, [], 1, 0), some (.iadd, 1, [], 0, 0), some (.iaload, 1, [], 0, 0), some (.aload_n 0, 1, [0], 0, 0), some (.iload_n 3, 1, [3], 0, 0), some (.iconst 2, 1, [], 2, 0), some (.iadd, 1, [], 0, 0), some (.iaload, 1, [], 0, 0), some (.aload_n 0, 1, [0], 0, 0), some (.iload_n 3, 1, [3], 0, 0), some (.iconst 3, 1, [], 3, 0), some (.iadd, 1, [], 0, 0), some (.iaload, 1, [], 0, 0), some (.aload_n 0, 1, [0], 0, 0)],
  [some (.iload_n 3, 1, [3], 0, 0), some (.iconst 4, 1, [], 4, 0), some (.iadd, 1, [], 0, 0), some (.iaload, 1, [], 0, 0), some (.invokevirtual 102, 3, [0, 225, 5, 0], 0, 0), none, none, some (.if_icmp .eq 613, 3, [1516], 0, 0), none, none, some (.iconst 0, 1, [], 0, 0), some (.ireturn, 1, [], 0, 0), some (.aload_n 1, 1, [1], 0, 0), some (.aload_n 0, 1, [0], 0, 0), some (.iload_n 3, 1, [3], 0, 0), some (.iconst 1, 1, [], 1, 0), some (.iadd, 1, [], 0, 0), some (.iaload, 1, [], 0, 0), some (.invokevirtual 103, 3, [0, 128, 2, 0], 0, 0), none, none, some (.aload_n 2, 1, [2], 0, 0), some (.aload_n 0, 1, [0], 0, 0), some (.iload_n 3, 1, [3], 0, 0), some (.iconst 1, 1, [], 1, 0), some (.iadd, 1, [], 0, 0), some (.iaload, 1, [], 0, 0), some (.invokevirtual 106, 3, [0, 226, 2, 0], 0, 0), none, none, some (.if_icmp .eq 590, 3, [1516], 0, 0), none],
  [none, some (.iconst 0, 1, [], 0, 0), some (.ireturn, 1, [], 0, 0), some (.aload_n 1, 1, [1], 0, 0), some (.aload_n 0, 1, [0], 0, 0), some (.iload_n 3, 1, [3], 0, 0), some (.iconst 1, 1, [], 1, 0), some (.iadd, 1, [], 0, 0), some (.iaload, 1, [], 0, 0), some (.aload_n 0, 1, [0], 0, 0), some (.iload_n 3, 1, [3], 0, 0), some (.iconst 2, 1, [], 2, 0), some (.iadd, 1, [], 0, 0), some (.iaload, 1, [], 0, 0), some (.invokevirtual 107, 3, [0, 129, 3, 0], 0, 0), none, none, some (.aload_n 2, 1, [2], 0, 0), some (.aload_n 0, 1, [0], 0, 0), some (.iload_n 3, 1, [3], 0, 0), some (.iconst 1, 1, [], 1, 0), some (.iadd, 1, [], 0, 0), some (.iaload, 1, [], 0, 0), some (.aload_n 0, 1, [0], 0, 0), some (.iload_n 3, 1, [3], 0, 0), some (.iconst 2, 1, [], 2, 0), some (.iadd, 1, [], 0, 0), some (.iaload, 1, [], 0, 0), some (.invokevirtual 110, 3, [0, 236, 3, 0], 0, 0), none, none, some (.if_icmp .eq 557, 3, [1516], 0, 0)],
  [none, none, some (.iconst 0, 1, [], 0, 0), some (.ireturn, 1, [], 0, 0), some (.aload_n 1, 1, [1], 0, 0), some (.aload_n 0, 1, [0], 0, 0), some (.iload_n 3, 1, [3], 0, 0), some (.iconst 1, 1, [], 1, 0), some (.iadd, 1, [], 0, 0), some (.iaload, 1, [], 0, 0), some (.aload_n 0, 1, [0], 0, 0), some (.iload_n 3, 1, [3], 0, 0), some (.iconst 2, 1, [], 2, 0), some (.iadd, 1, [], 0, 0), some (.iaload, 1, [], 0, 0), some (.aload_n 0, 1, [0], 0, 0), some (.iload_n 3, 1, [3], 0, 0), some (.iconst 3, 1, [], 3, 0), some (.iadd, 1, [], 0, 0), some (.iaload, 1, [], 0, 0), some (.aload_n 0, 1, [0], 0, 0), some (.iload_n 3, 1, [3], 0, 0), some (.iconst 4, 1, [], 4, 0), some (.iadd, 1, [], 0, 0), some (.iaload, 1, [], 0, 0), some (.invokevirtual 111, 3, [0, 130, 5, 0], 0, 0), none, none, some (.aload_n 2, 1, [2], 0, 0), some (.aload_n 0, 1, [0], 0, 0), some (.iload_n 3, 1, [3], 0, 0), some (.iconst 1, 1, [], 1, 0)],
  [some (.iadd, 1, [], 0, 0), some (.iaload, 1, [], 0, 0), some (.aload_n 0, 1, [0], 0, 0), some (.iload_n 3, 1, [3], 0, 0), some (.iconst 2, 1, [], 2, 0), some (.iadd, 1, [], 0, 0), some (.iaload, 1, [], 0, 0), some (.aload_n 0, 1, [0], 0, 0), some (.iload_n 3, 1, [3], 0, 0), some (.iconst 3, 1, [], 3, 0), some (.iadd, 1, [], 0, 0), some (.iaload, 1, [], 0, 0), some (.aload_n 0, 1, [0], 0, 0), some (.iload_n 3, 1, [3], 0, 0), some (.iconst 4, 1, [], 4, 0), some (.iadd, 1, [], 0, 0), some (.iaload, 1, [], 0, 0), some (.invokevirtual 114, 3, [0, 237, 5, 0], 0, 0), none, none, some (.if_icmp .eq 504, 3, [1516], 0, 0), none, none, some (.iconst 0, 1, [], 0, 0), some (.ireturn, 1, [], 0, 0), some (.aload_n 1, 1, [1], 0, 0), some (.aload_n 0, 1, [0], 0, 0), some (.iload_n 3, 1, [3], 0, 0), some (.iconst 1, 1, [], 1, 0), some (.iadd, 1, [], 0, 0), some (.iaload, 1, [], 0, 0), some (.aload_n 0, 1, [0], 0, 0)],
  [some (.iload_n 3, 1, [3], 0, 0), some (.iconst 2, 1, [], 2, 0), some (.iadd, 1, [], 0, 0), some (.iaload, 1, [], 0, 0), some (.aload_n 0, 1, [0], 0, 0), some (.iload_n 3, 1, [3], 0, 0), some (.iconst 3, 1, [], 3, 0), some (.iadd, 1, [], 0, 0), some (.iaload, 1, [], 0, 0), some (.invokevirtual 115, 3, [0, 131, 4, 0], 0, 0), none, none, some (.aload_n 2, 1, [2], 0, 0), some (.aload_n 0, 1, [0], 0, 0), some (.iload_n 3, 1, [3], 0, 0), some (.iconst 1, 1, [], 1, 0), some (.iadd, 1, [], 0, 0), some (.iaload, 1, [], 0, 0), some (.aload_n 0, 1, [0], 0, 0), some (.iload_n 3, 1, [3], 0, 0), some (.iconst 2, 1, [], 2, 0), some (.iadd, 1, [], 0, 0), some (.iaload, 1, [], 0, 0), some (.aload_n 0, 1, [0], 0, 0), some (.iload_n 3, 1, [3], 0, 0), some (.iconst 3, 1, [], 3, 0), some (.iadd, 1, [], 0, 0), some (.iaload, 1, [], 0, 0), some (.invokevirtual 118, 3, [0, 238, 4, 0], 0, 0), none, none, some (.if_icmp .eq 461, 3, [1516], 0, 0)],
  [none, none, some (.iconst 0, 1, [], 0, 0), some (.ireturn, 1, [], 0, 0), some (.aload_n 1, 1, [1], 0, 0), some (.aload_n 0, 1, [0], 0, 0), some (.iload_n 3, 1, [3], 0, 0), some (.iconst 1, 1, [], 1, 0), some (.iadd, 1, [], 0, 0), some (.iaload, 1, [], 0, 0), some (.aload_n 0, 1, [0], 0, 0), some (.iload_n 3, 1, [3], 0, 0), some (.iconst 2, 1, [], 2, 0), some (.iadd, 1, [], 0, 0), some (.iaload, 1, [], 0, 0), some (.invokevirtual 119, 3, [0, 132, 3, 0], 0, 0), none, none, some (.aload_n 2, 1, [2], 0, 0), some (.aload_n 0, 1, [0], 0, 0), some (.iload_n 3, 1, [3], 0, 0), some (.iconst 1, 1, [], 1, 0), some (.iadd, 1, [], 0, 0), some (.iaload, 1, [], 0, 0), some (.aload_n 0, 1, [0], 0, 0), some (.iload_n 3, 1, [3], 0, 0), some (.iconst 2, 1, [], 2, 0), some (.iadd, 1, [], 0, 0), some (.iaload, 1, [], 0, 0), some (.invokevirtual 122, 3, [0, 239, 3, 0], 0, 0), none, none],
  [some (.if_icmp .eq 428, 3, [1516], 0, 0), none, none, some (.iconst 0, 1, [], 0, 0), some (.ireturn, 1, [], 0, 0), some (.aload_n 1, 1, [1], 0, 0), some (.aload_n 0, 1, [0], 0, 0), some (.iload_n 3, 1, [3], 0, 0), some (.iconst 1, 1, [], 1, 0), some (.iadd, 1, [], 0, 0), some (.iaload, 1, [], 0, 0), some (.aload_n 0, 1, [0], 0, 0), some (.iload_n 3, 1, [3], 0, 0), some (.iconst 2, 1, [], 2, 0), some (.iadd, 1, [], 0, 0), some (.iaload, 1, [], 0, 0), some (.aload_n 0, 1, [0], 0, 0), some (.iload_n 3, 1, [3], 0, 0), some (.iconst 3, 1, [], 3, 0), some (.iadd, 1, [], 0, 0), some (.iaload, 1, [], 0, 0), some (.invokevirtual 123, 3, [0, 133, 4, 0], 0, 0), none, none, some (.aload_n 2, 1, [2], 0, 0), some (.aload_n 0, 1, [0], 0, 0), some (.iload_n 3, 1, [3], 0, 0), some (.iconst 1, 1, [], 1, 0), some (.iadd, 1, [], 0, 0), some (.iaload, 1, [], 0, 0), some (.aload_n 0, 1, [0], 0, 0), some (.iload_n 3, 1, [3], 0, 0)],
  [some (.iconst 2, 1, [], 2, 0), some (.iadd, 1, [], 0, 0), some (.iaload, 1, [], 0, 0), some (.aload_n 0, 1, [0], 0, 0), some (.iload_n 3, 1, [3], 0, 0), some (.iconst 3, 1, [], 3, 0), some (.iadd, 1, [], 0, 0), some (.iaload, 1, [], 0, 0), some (.invokevirtual 126, 3, [0, 242, 4, 0], 0, 0), none, none, some (.if_icmp .eq 385, 3, [1516], 0, 0), none, none, some (.iconst 0, 1, [], 0, 0), some (.ireturn, 1, [], 0, 0), some (.aload_n 1, 1, [1], 0, 0), some (.aload_n 0, 1, [0], 0, 0), some (.iload_n 3, 1, [3], 0, 0), some (.iconst 1, 1, [], 1, 0), some (.iadd, 1, [], 0, 0), some (.iaload, 1, [], 0, 0), some (.aload_n 0, 1, [0], 0, 0), some (.iload_n 3, 1, [3], 0, 0), some (.iconst 2, 1, [], 2, 0), some (.iadd, 1, [], 0, 0), some (.iaload, 1, [], 0, 0), some (.aload_n 0, 1, [0], 0, 0), some (.iload_n 3, 1, [3], 0, 0), some (.iconst 3, 1, [], 3, 0), some (.iadd, 1, [], 0, 0), some (.iaload, 1, [], 0, 0)],
  [some (.invokevirtual 127, 3, [0, 134, 4, 0], 0, 0), none, none, some (.aload_n 2, 1, [2], 0, 0), some (.aload_n 0, 1, [0], 0, 0), some (.iload_n 3, 1, [3], 0, 0), some (.iconst 1, 1, [], 1, 0), some (.iadd, 1, [], 0, 0), some (.iaload, 1, [], 0, 0), some (.aload_n 0, 1, [0], 0, 0), some (.iload_n 3, 1, [3], 0, 0), some (.iconst 2, 1, [], 2, 0), some (.iadd, 1, [], 0, 0), some (.iaload, 1, [], 0, 0), some (.aload_n 0, 1, [0], 0, 0), some (.iload_n 3, 1, [3], 0, 0), some (.iconst 3, 1, [], 3, 0), some (.iadd, 1, [], 0, 0), some (.iaload, 1, [], 0, 0), some (.invokevirtual 130, 3, [0, 243, 4, 0], 0, 0), none, none, some (.if_icmp .eq 342, 3, [1516], 0, 0), none, none, some (.iconst 0, 1, [], 0, 0), some (.ireturn, 1, [], 0, 0), some (.aload_n 1, 1, [1], 0, 0), some (.aload_n 0, 1, [0], 0, 0), some (.iload_n 3, 1, [3], 0, 0), some (.iconst 1, 1, [], 1, 0), some (.iadd, 1, [], 0, 0)],
  [some (.iaload, 1, [], 0, 0), some (.aload_n 0, 1, [0], 0, 0), some (.iload_n 3, 1, [3], 0, 0), some (.iconst 2, 1, [], 2, 0), some (.iadd, 1, [], 0, 0), some (.iaload, 1, [], 0, 0), some (.invokevirtual 131, 3, [0, 135, 3, 0], 0, 0), none, none, some (.aload_n 2, 1, [2], 0, 0), some (.aload_n 0, 1, [0], 0, 0), some (.iload_n 3, 1, [3], 0, 0), some (.iconst 1, 1, [], 1, 0), some (.iadd, 1, [], 0, 0), some (.iaload, 1, [], 0, 0), some (.aload_n 0, 1, [0], 0, 0), some (.iload_n 3, 1, [3], 0, 0), some (.iconst 2, 1, [], 2, 0), some (.iadd, 1, [], 0, 0), some (.iaload, 1, [], 0, 0), some (.invokevirtual 134, 3, [0, 247, 3, 0], 0, 0), none, none, some (.if_icmp .eq 309, 3, [1516], 0, 0), none, none, some (.iconst 0, 1, [], 0, 0), some (.ireturn, 1, [], 0, 0), some (.aload_n 1, 1, [1], 0, 0), some (.aload_n 0, 1, [0], 0, 0), some (.iload_n 3, 1, [3], 0, 0), some (.iconst 1, 1, [], 1, 0)],
  [some (.iadd, 1, [], 0, 0), some (.iaload, 1, [], 0, 0), some (.aload_n 0, 1, [0], 0, 0), some (.iload_n 3, 1, [3], 0, 0), some (.iconst 2, 1, [], 2, 0), some (.iadd, 1, [], 0, 0), some (.iaload, 1, [], 0, 0), some (.invokevirtual 135, 3, [0, 136, 3, 0], 0, 0), none, none, some (.aload_n 2, 1, [2], 0, 0), some (.aload_n 0, 1, [0], 0, 0), some (.iload_n 3, 1, [3], 0, 0), some (.iconst 1, 1, [], 1, 0), some (.iadd, 1, [], 0, 0), some (.iaload, 1, [], 0, 0), some (.aload_n 0, 1, [0], 0, 0), some (.iload_n 3, 1, [3], 0, 0), some (.iconst 2, 1, [], 2, 0), some (.iadd, 1, [], 0, 0), some (.iaload, 1, [], 0, 0), some (.invokevirtual 138, 3, [0, 248, 3, 0], 0, 0), none, none, some (.if_icmp .eq 276, 3, [1516], 0, 0), none, none, some (.iconst 0, 1, [], 0, 0), some (.ireturn, 1, [], 0, 0), some (.aload_n 1, 1, [1], 0, 0), some (.aload_n 0, 1, [0], 0, 0), some (.iload_n 3, 1, [3], 0, 0)],
  [some (.iconst 1, 1, [], 1, 0), some (.iadd, 1, [], 0, 0), some (.iaload, 1, [], 0, 0), some (.aload_n 0, 1, [0], 0, 0), some (.iload_n 3, 1, [3], 0, 0), some (.iconst 2, 1, [], 2, 0), some (.iadd, 1, [], 0, 0), some (.iaload, 1, [], 0, 0), some (.aload_n 0, 1, [0], 0, 0), some (.iload_n 3, 1, [3], 0, 0), some (.iconst 3, 1, [], 3, 0), some (.iadd, 1, [], 0, 0), some (.iaload, 1, [], 0, 0), some (.aload_n 0, 1, [0], 0, 0), some (.iload_n 3, 1, [3], 0, 0), some (.iconst 4, 1, [], 4, 0), some (.iadd, 1, [], 0, 0), some (.iaload, 1, [], 0, 0), some (.invokevirtual 139, 3, [0, 137, 5, 0], 0, 0), none, none, some (.aload_n 2, 1, [2], 0, 0), some (.aload_n 0, 1, [0], 0, 0), some (.iload_n 3, 1, [3], 0, 0), some (.iconst 1, 1, [], 1, 0), some (.iadd, 1, [], 0, 0), some (.iaload, 1, [], 0, 0), some (.aload_n 0, 1, [0], 0, 0), some (.iload_n 3, 1, [3], 0, 0), some (.iconst 2, 1, [], 2, 0), some (.iadd, 1, [], 0, 0), some (.iaload, 1, [], 0, 0)],
  [some (.aload_n 0, 1, [0], 0, 0), some (.iload_n 3, 1, [3], 0, 0), some (.iconst 3, 1, [], 3, 0), some (.iadd, 1, [], 0, 0), some (.iaload, 1, [], 0, 0), some (.aload_n 0, 1, [0], 0, 0), some (.iload_n 3, 1, [3], 0, 0), some (.iconst 4, 1, [], 4, 0), some (.iadd, 1, [], 0, 0), some (.iaload, 1, [], 0, 0), some (.invokevirtual 142, 3, [0, 244, 5, 0], 0, 0), none, none, some (.if_icmp .eq 223, 3, [1516], 0, 0), none, none, some (.iconst 0, 1, [], 0, 0), some (.ireturn, 1, [], 0, 0), some (.aload_n 1, 1, [1], 0, 0), some (.aload_n 0, 1, [0], 0, 0), some (.iload_n 3, 1, [3], 0, 0), some (.iconst 1, 1, [], 1, 0), some (.iadd, 1, [], 0, 0), some (.iaload, 1, [], 0, 0), some (.aload_n 0, 1, [0], 0, 0), some (.iload_n 3, 1, [3], 0, 0), some (.iconst 2, 1, [], 2, 0), some (.iadd, 1, [], 0, 0), some (.iaload, 1, [], 0, 0), some (.aload_n 0, 1, [0], 0, 0), some (.iload_n 3, 1, [3], 0, 0), some (.iconst 3, 1, [], 3, 0)],
  [some (.iadd, 1, [], 0, 0), some (.iaload, 1, [], 0, 0), some (.invokevirtual 143, 3, [0, 138, 4, 0], 0, 0), none, none, some (.aload_n 2, 1, [2], 0, 0), some (.aload_n 0, 1, [0], 0, 0), some (.iload_n 3, 1, [3], 0, 0), some (.iconst 1, 1, [], 1, 0), some (.iadd, 1, [], 0, 0), some (.iaload, 1, [], 0, 0), some (.aload_n 0, 1, [0], 0, 0), some (.iload_n 3, 1, [3], 0, 0), some (.iconst 2, 1, [], 2, 0), some (.iadd, 1, [], 0, 0), some (.iaload, 1, [], 0, 0), some (.aload_n 0, 1, [0], 0, 0), some (.iload_n 3, 1, [3], 0, 0), some (.iconst 3, 1, [], 3, 0), some (.iadd, 1, [], 0, 0), some (.iaload, 1, [], 0, 0), some (.invokevirtual 146, 3, [0, 249, 4, 0], 0, 0), none, none, some (.if_icmp .eq 180, 3, [1516], 0, 0), none, none, some (.iconst 0, 1, [], 0, 0), some (.ireturn, 1, [], 0, 0), some (.aload_n 1, 1, [1], 0, 0), some (.aload_n 0, 1, [0], 0, 0), some (.iload_n 3, 1, [3], 0, 0)],
  [some (.iconst 1, 1, [], 1, 0), some (.iadd, 1, [], 0, 0), some (.iaload, 1, [], 0, 0), some (.aload_n 0, 1, [0], 0, 0), some (.iload_n 3, 1, [3], 0, 0), some (.iconst 2, 1, [], 2, 0), some (.iadd, 1, [], 0, 0), some (.iaload, 1, [], 0, 0), some (.aload_n 0, 1, [0], 0, 0), some (.iload_n 3, 1, [3], 0, 0), some (.iconst 3, 1, [], 3, 0), some (.iadd, 1, [], 0, 0), some (.iaload, 1, [], 0, 0), some (.invokevirtual 147, 3, [0, 139, 4, 0], 0, 0), none, none, some (.aload_n 2, 1, [2], 0, 0), some (.aload_n 0, 1, [0], 0, 0), some (.iload_n 3, 1, [3], 0, 0), some (.iconst 1, 1, [], 1, 0), some (.iadd, 1, [], 0, 0), some (.iaload, 1, [], 0, 0), some (.aload_n 0, 1, [0], 0, 0), some (.iload_n 3, 1, [3], 0, 0), some (.iconst 2, 1, [], 2, 0), some (.iadd, 1, [], 0, 0), some (.iaload, 1, [], 0, 0), some (.aload_n 0, 1, [0], 0, 0), some (.iload_n 3, 1, [3], 0, 0), some (.iconst 3, 1, [], 3, 0), some (.iadd, 1, [], 0, 0), some (.iaload, 1, [], 0, 0)],
  [some (.invokevirtual 150, 3, [0, 250, 4, 0], 0, 0), none, none, some (.if_icmp .eq 137, 3, [1516], 0, 0), none, none, some (.iconst 0, 1, [], 0, 0), some (.ireturn, 1, [], 0, 0), some (.aload_n 1, 1, [1], 0, 0), some (.aload_n 0, 1, [0], 0, 0), some (.iload_n 3, 1, [3], 0, 0), some (.iconst 1, 1, [], 1, 0), some (.iadd, 1, [], 0, 0), some (.iaload, 1, [], 0, 0), some (.aload_n 0, 1, [0], 0, 0), some (.iload_n 3, 1, [3], 0, 0), some (.iconst 2, 1, [], 2, 0), some (.iadd, 1, [], 0, 0), some (.iaload, 1, [], 0, 0), some (.invokevirtual 151, 3, [0, 140, 3, 0], 0, 0), none, none, some (.aload_n 2, 1, [2], 0, 0), some (.aload_n 0, 1, [0], 0, 0), some (.iload_n 3, 1, [3], 0, 0), some (.iconst 1, 1, [], 1, 0), some (.iadd, 1, [], 0, 0), some (.iaload, 1, [], 0, 0), some (.aload_n 0, 1, [0], 0, 0), some (.iload_n 3, 1, [3], 0, 0), some (.iconst 2, 1, [], 2, 0), some (.iadd, 1, [], 0, 0)],
  [some (.iaload, 1, [], 0, 0), some (.invokevirtual 154, 3, [0, 251, 3, 0], 0, 0), none, none, some (.if_icmp .eq 104, 3, [1516], 0, 0), none, none, some (.iconst 0, 1, [], 0, 0), some (.ireturn, 1, [], 0, 0), some (.aload_n 1, 1, [1], 0, 0), some (.aload_n 0, 1, [0], 0, 0), some (.iload_n 3, 1, [3], 0, 0), some (.iconst 1, 1, [], 1, 0), some (.iadd, 1, [], 0, 0), some (.iaload, 1, [], 0, 0), some (.invokevirtual 155, 3, [0, 141, 2, 0], 0, 0), none, none, some (.aload_n 2, 1, [2], 0, 0), some (.aload_n 0, 1, [0], 0, 0), some (.iload_n 3, 1, [3], 0, 0), some (.iconst 1, 1, [], 1, 0), some (.iadd, 1, [], 0, 0), some (.iaload, 1, [], 0, 0), some (.invokevirtual 158, 3, [0, 252, 2, 0], 0, 0), none, none, some (.if_icmp .eq 81, 3, [1516], 0, 0), none, none, some (.iconst 0, 1, [], 0, 0), some (.ireturn, 1, [], 0, 0)],
  [some (.aload_n 1, 1, [1], 0, 0), some (.aload_n 0, 1, [0], 0, 0), some (.iload_n 3, 1, [3], 0, 0), some (.iconst 1, 1, [], 1, 0), some (.iadd, 1, [], 0, 0), some (.iaload, 1, [], 0, 0), some (.aload_n 0, 1, [0], 0, 0), some (.iload_n 3, 1, [3], 0, 0), some (.iconst 2, 1, [], 2, 0), some (.iadd, 1, [], 0, 0), some (.iaload, 1, [], 0, 0), some (.aload_n 0, 1, [0], 0, 0), some (.iload_n 3, 1, [3], 0, 0), some (.iconst 3, 1, [], 3, 0), some (.iadd, 1, [], 0, 0), some (.iaload, 1, [], 0, 0), some (.aload_n 0, 1, [0], 0, 0), some (.iload_n 3, 1, [3], 0, 0), some (.iconst 4, 1, [], 4, 0), some (.iadd, 1, [], 0, 0), some (.iaload, 1, [], 0, 0), some (.invokevirtual 159, 3, [0, 142, 5, 0], 0, 0), none, none, some (.aload_n 2, 1, [2], 0, 0), some (.aload_n 0, 1, [0], 0, 0), some (.iload_n 3, 1, [3], 0, 0), some (.iconst 1, 1, [], 1, 0), some (.iadd, 1, [], 0, 0), some (.iaload, 1, [], 0, 0), some (.aload_n 0, 1, [0], 0, 0), some (.iload_n 3, 1, [3], 0, 0)],
  [some (.iconst 2, 1, [], 2, 0), some (.iadd, 1, [], 0, 0), some (.iaload, 1, [], 0, 0), some (.aload_n 0, 1, [0], 0, 0), some (.iload_n 3, 1, [3], 0, 0), some (.iconst 3, 1, [], 3, 0), some (.iadd, 1, [], 0, 0), some (.iaload, 1, [], 0, 0), some (.aload_n 0, 1, [0], 0, 0), some (.iload_n 3, 1, [3], 0, 0), some (.iconst 4, 1, [], 4, 0), some (.iadd, 1, [], 0, 0), some (.iaload, 1, [], 0, 0), some (.invokevirtual 162, 3, [0, 253, 5, 0], 0, 0), none, none, some (.if_icmp .eq 28, 3, [1516], 0, 0), none, none, some (.iconst 0, 1, [], 0, 0), some (.ireturn, 1, [], 0, 0), some (.aload_n 1, 1, [1], 0, 0), some (.aload_n 0, 1, [0], 0, 0), some (.iload_n 3, 1, [3], 0, 0), some (.iconst 1, 1, [], 1, 0), some (.iadd, 1, [], 0, 0), some (.iaload, 1, [], 0, 0), some (.invokevirtual 163, 3, [0, 143, 2, 0], 0, 0), none, none, some (.aload_n 2, 1, [2], 0, 0), some (.aload_n 0, 1, [0], 0, 0)],
  [some (.iload_n 3, 1, [3], 0, 0), some (.iconst 1, 1, [], 1, 0), some (.iadd, 1, [], 0, 0), some (.iaload, 1, [], 0, 0), some (.invokevirtual 166, 3, [0, 254, 2, 0], 0, 0), none, none, some (.if_icmp .eq 5, 3, [1516], 0, 0), none, none, some (.iconst 0, 1, [], 0, 0), some (.ireturn, 1, [], 0, 0), some (.iinc 3 6, 3, [3], 6, 0), none, none, some (.goto (-1501), 3, [18], 0, 0), none, none, some (.iconst 1, 1, [], 1, 0), some (.ireturn, 1, [], 0, 0)]]
def F_Law_law_18 (N : Nat) (xs : Nat → Int32) (bk : (Nat → Int32 → MH → Option (Int32 × MH))) (q0 : Nat) (a3 : Int32) (h : MH) : Option (Int32 × MH) :=
  if ((nI q0) - 6) < a3 then
  (some (1, h))
  else
  (if inB a3 q0 = true then
  (if ((xs (iN a3)) &&& 63) = nI 0 then
  ((f_S_status N h).bind (fun x1 =>
  (f_M_status N x1.2).bind (fun x2 =>
  if x1.1 = x2.1 then
  (let v3 : Int32 := a3 + 6
  bk q0 v3 x2.2)
  else
  (some (0, x2.2)))))
  else
  (if ((xs (iN a3)) &&& 63) = nI 1 then
  ((f_S_top N h).bind (fun x4 =>
  (f_M_top N x4.2).bind (fun x5 =>
  if (lg_cmp x4.1 x5.1) = 0 then
  (let v6 : Int32 := a3 + 6
  bk q0 v6 x5.2)
  else
  (some (0, x5.2)))))
  else
  (if ((xs (iN a3)) &&& 63) = nI 2 then
  ((f_S_bottom N h).bind (fun x7 =>
  (f_M_bottom N x7.2).bind (fun x8 =>
  if (lg_cmp x7.1 x8.1) = 0 then
  (let v9 : Int32 := a3 + 6
  bk q0 v9 x8.2)
  else
  (some (0, x8.2)))))
  else
  (if ((xs (iN a3)) &&& 63) = nI 3 then
  (if inB (a3 + 1) q0 = true then
  (if inB (a3 + 2) q0 = true then
  (if inB (a3 + 3) q0 = true then
  ((f_S_tray N (xs (iN (a3 + 1))) (xs (iN (a3 + 2))) (xs (iN (a3 + 3))) h).bind (fun x10 =>
  if inB (a3 + 1) q0 = true then
  (if inB (a3 + 2) q0 = true then
  (if inB (a3 + 3) q0 = true then
  ((f_M_tray N (xs (iN (a3 + 1))) (xs (iN (a3 + 2))) (xs (iN (a3 + 3))) x10.2).bind (fun x11 =>
  if x10.1 = x11.1 then
  (let v12 : Int32 := a3 + 6
  bk q0 v12 x11.2)
  else
  (some (0, x11.2))))
  else none)
  else none)
  else none))
  else none)
  else none)
  else none)
  else
  (if ((xs (iN a3)) &&& 63) = nI 4 then
  (if inB (a3 + 1) q0 = true then
  (if inB (a3 + 2) q0 = true then
  (if inB (a3 + 3) q0 = true then
  (if inB (a3 + 4) q0 = true then
  ((f_S_write N (xs (iN (a3 + 1))) (xs (iN (a3 + 2))) (((((xs (iN (a3 + 3)))).toInt64) <<< (Int32.toInt64 32 &&& 63)) ||| ((((xs (iN (a3 + 4)))).toInt64) &&& 4294967295)) h).bind (fun x13 =>
  if inB (a3 + 1) q0 = true then
  (if inB (a3 + 2) q0 = true then
  (if inB (a3 + 3) q0 = true then
  (if inB (a3 + 4) q0 = true then
  ((f_M_write N (xs (iN (a3 + 1))) (xs (iN (a3 + 2))) (((((xs (iN (a3 + 3)))).toInt64) <<< (Int32.toInt64 32 &&& 63)) ||| ((((xs (iN (a3 + 4)))).toInt64) &&& 4294967295)) x13.2).bind (fun x14 =>
  if x13.1 = x14.1 then
  (let v15 : Int32 := a3 + 6
  bk q0 v15 x14.2)
  else
  (some (0, x14.2))))
  else none)
  else none)
  else none)
  else none))
  else none)
  else none)
  else none)
  else none)
  else
  (if ((xs (iN a3)) &&& 63) = nI 5 then
  (if inB (a3 + 1) q0 = true then
  (if inB (a3 + 2) q0 = true then
  ((f_S_read N (xs (iN (a3 + 1))) (xs (iN (a3 + 2))) h).bind (fun x16 =>
  if inB (a3 + 1) q0 = true then
  (if inB (a3 + 2) q0 = true then
  ((f_M_read N (xs (iN (a3 + 1))) (xs (iN (a3 + 2))) x16.2).bind (fun x17 =>
  if (lg_cmp x16.1 x17.1) = 0 then
  (let v18 : Int32 := a3 + 6
  bk q0 v18 x17.2)
  else
  (some (0, x17.2))))
  else none)
  else none))
  else none)
  else none)
  else
  (if ((xs (iN a3)) &&& 63) = nI 6 then
  (if inB (a3 + 1) q0 = true then
  (if inB (a3 + 2) q0 = true then
  (if inB (a3 + 3) q0 = true then
  (if inB (a3 + 4) q0 = true then
  (if inB (a3 + 5) q0 = true then
  ((f_S_pour N (xs (iN (a3 + 1))) (xs (iN (a3 + 2))) (xs (iN (a3 + 3))) (xs (iN (a3 + 4))) (xs (iN (a3 + 5))) h).bind (fun x19 =>
  if inB (a3 + 1) q0 = true then
  (if inB (a3 + 2) q0 = true then
  (if inB (a3 + 3) q0 = true then
  (if inB (a3 + 4) q0 = true then
  (if inB (a3 + 5) q0 = true then
  ((f_M_pour N (xs (iN (a3 + 1))) (xs (iN (a3 + 2))) (xs (iN (a3 + 3))) (xs (iN (a3 + 4))) (xs (iN (a3 + 5))) x19.2).bind (fun x20 =>
  if x19.1 = x20.1 then
  (let v21 : Int32 := a3 + 6
  bk q0 v21 x20.2)
  else
  (some (0, x20.2))))
  else none)
  else none)
  else none)
  else none)
  else none))
  else none)
  else none)
  else none)
  else none)
  else none)
  else
  (if ((xs (iN a3)) &&& 63) = nI 7 then
  (if inB (a3 + 1) q0 = true then
  (if inB (a3 + 2) q0 = true then
  (if inB (a3 + 3) q0 = true then
  (if inB (a3 + 4) q0 = true then
  (if inB (a3 + 5) q0 = true then
  ((f_S_feed N (xs (iN (a3 + 1))) (xs (iN (a3 + 2))) (xs (iN (a3 + 3))) (xs (iN (a3 + 4))) (xs (iN (a3 + 5))) h).bind (fun x22 =>
  if inB (a3 + 1) q0 = true then
  (if inB (a3 + 2) q0 = true then
  (if inB (a3 + 3) q0 = true then
  (if inB (a3 + 4) q0 = true then
  (if inB (a3 + 5) q0 = true then
  ((f_M_feed N (xs (iN (a3 + 1))) (xs (iN (a3 + 2))) (xs (iN (a3 + 3))) (xs (iN (a3 + 4))) (xs (iN (a3 + 5))) x22.2).bind (fun x23 =>
  if x22.1 = x23.1 then
  (let v24 : Int32 := a3 + 6
  bk q0 v24 x23.2)
  else
  (some (0, x23.2))))
  else none)
  else none)
  else none)
  else none)
  else none))
  else none)
  else none)
  else none)
  else none)
  else none)
  else
  (if ((xs (iN a3)) &&& 63) = nI 8 then
  (if inB (a3 + 1) q0 = true then
  ((f_S_land N (xs (iN (a3 + 1))) h).bind (fun x25 =>
  if inB (a3 + 1) q0 = true then
  ((f_M_land N (xs (iN (a3 + 1))) x25.2).bind (fun x26 =>
  if x25.1 = x26.1 then
  (let v27 : Int32 := a3 + 6
  bk q0 v27 x26.2)
  else
  (some (0, x26.2))))
  else none))
  else none)
  else
  (if ((xs (iN a3)) &&& 63) = nI 9 then
  (if inB (a3 + 1) q0 = true then
  ((f_S_fault N (xs (iN (a3 + 1))) h).bind (fun x28 =>
  if inB (a3 + 1) q0 = true then
  ((f_M_fault N (xs (iN (a3 + 1))) x28.2).bind (fun x29 =>
  if x28.1 = x29.1 then
  (let v30 : Int32 := a3 + 6
  bk q0 v30 x29.2)
  else
  (some (0, x29.2))))
  else none))
  else none)
  else
  (if ((xs (iN a3)) &&& 63) = nI 10 then
  (if inB (a3 + 1) q0 = true then
  ((f_S_many N (xs (iN (a3 + 1))) h).bind (fun x31 =>
  if inB (a3 + 1) q0 = true then
  ((f_M_many N (xs (iN (a3 + 1))) x31.2).bind (fun x32 =>
  if x31.1 = x32.1 then
  (let v33 : Int32 := a3 + 6
  bk q0 v33 x32.2)
  else
  (some (0, x32.2))))
  else none))
  else none)
  else
  (if ((xs (iN a3)) &&& 63) = nI 11 then
  (if inB (a3 + 1) q0 = true then
  (if inB (a3 + 2) q0 = true then
  ((f_S_moves N (xs (iN (a3 + 1))) (xs (iN (a3 + 2))) h).bind (fun x34 =>
  if inB (a3 + 1) q0 = true then
  (if inB (a3 + 2) q0 = true then
  ((f_M_moves N (xs (iN (a3 + 1))) (xs (iN (a3 + 2))) x34.2).bind (fun x35 =>
  if x34.1 = x35.1 then
  (let v36 : Int32 := a3 + 6
  bk q0 v36 x35.2)
  else
  (some (0, x35.2))))
  else none)
  else none))
  else none)
  else none)
  else
  (if ((xs (iN a3)) &&& 63) = nI 12 then
  (if inB (a3 + 1) q0 = true then
  (if inB (a3 + 2) q0 = true then
  (if inB (a3 + 3) q0 = true then
  (if inB (a3 + 4) q0 = true then
  (if inB (a3 + 5) q0 = true then
  ((f_S_row N (xs (iN (a3 + 1))) (xs (iN (a3 + 2))) (xs (iN (a3 + 3))) (xs (iN (a3 + 4))) (xs (iN (a3 + 5))) h).bind (fun x37 =>
  if inB (a3 + 1) q0 = true then
  (if inB (a3 + 2) q0 = true then
  (if inB (a3 + 3) q0 = true then
  (if inB (a3 + 4) q0 = true then
  (if inB (a3 + 5) q0 = true then
  ((f_M_row N (xs (iN (a3 + 1))) (xs (iN (a3 + 2))) (xs (iN (a3 + 3))) (xs (iN (a3 + 4))) (xs (iN (a3 + 5))) x37.2).bind (fun x38 =>
  if x37.1 = x38.1 then
  (let v39 : Int32 := a3 + 6
  bk q0 v39 x38.2)
  else
  (some (0, x38.2))))
  else none)
  else none)
  else none)
  else none)
  else none))
  else none)
  else none)
  else none)
  else none)
  else none)
  else
  (if ((xs (iN a3)) &&& 63) = nI 13 then
  (if inB (a3 + 1) q0 = true then
  (if inB (a3 + 2) q0 = true then
  (if inB (a3 + 3) q0 = true then
  ((f_S_offset N (xs (iN (a3 + 1))) (xs (iN (a3 + 2))) (xs (iN (a3 + 3))) h).bind (fun x40 =>
  if inB (a3 + 1) q0 = true then
  (if inB (a3 + 2) q0 = true then
  (if inB (a3 + 3) q0 = true then
  ((f_M_offset N (xs (iN (a3 + 1))) (xs (iN (a3 + 2))) (xs (iN (a3 + 3))) x40.2).bind (fun x41 =>
  if x40.1 = x41.1 then
  (let v42 : Int32 := a3 + 6
  bk q0 v42 x41.2)
  else
  (some (0, x41.2))))
  else none)
  else none)
  else none))
  else none)
  else none)
  else none)
  else
  (if ((xs (iN a3)) &&& 63) = nI 14 then
  (if inB (a3 + 1) q0 = true then
  ((f_S_asof N (xs (iN (a3 + 1))) h).bind (fun x43 =>
  if inB (a3 + 1) q0 = true then
  ((f_M_asof N (xs (iN (a3 + 1))) x43.2).bind (fun x44 =>
  if x43.1 = x44.1 then
  (let v45 : Int32 := a3 + 6
  bk q0 v45 x44.2)
  else
  (some (0, x44.2))))
  else none))
  else none)
  else
  (if ((xs (iN a3)) &&& 63) = nI 15 then
  (if inB (a3 + 1) q0 = true then
  (if inB (a3 + 2) q0 = true then
  (if inB (a3 + 3) q0 = true then
  ((f_S_value N (xs (iN (a3 + 1))) (xs (iN (a3 + 2))) (xs (iN (a3 + 3))) h).bind (fun x46 =>
  if inB (a3 + 1) q0 = true then
  (if inB (a3 + 2) q0 = true then
  (if inB (a3 + 3) q0 = true then
  ((f_M_value N (xs (iN (a3 + 1))) (xs (iN (a3 + 2))) (xs (iN (a3 + 3))) x46.2).bind (fun x47 =>
  if x46.1 = x47.1 then
  (let v48 : Int32 := a3 + 6
  bk q0 v48 x47.2)
  else
  (some (0, x47.2))))
  else none)
  else none)
  else none))
  else none)
  else none)
  else none)
  else
  (if ((xs (iN a3)) &&& 63) = nI 16 then
  (if inB (a3 + 1) q0 = true then
  (if inB (a3 + 2) q0 = true then
  (if inB (a3 + 3) q0 = true then
  (if inB (a3 + 4) q0 = true then
  ((f_S_line N (xs (iN (a3 + 1))) (xs (iN (a3 + 2))) (xs (iN (a3 + 3))) (xs (iN (a3 + 4))) h).bind (fun x49 =>
  if inB (a3 + 1) q0 = true then
  (if inB (a3 + 2) q0 = true then
  (if inB (a3 + 3) q0 = true then
  (if inB (a3 + 4) q0 = true then
  ((f_M_line N (xs (iN (a3 + 1))) (xs (iN (a3 + 2))) (xs (iN (a3 + 3))) (xs (iN (a3 + 4))) x49.2).bind (fun x50 =>
  if x49.1 = x50.1 then
  (let v51 : Int32 := a3 + 6
  bk q0 v51 x50.2)
  else
  (some (0, x50.2))))
  else none)
  else none)
  else none)
  else none))
  else none)
  else none)
  else none)
  else none)
  else
  (if ((xs (iN a3)) &&& 63) = nI 17 then
  (if inB (a3 + 1) q0 = true then
  ((f_S_breaks N (xs (iN (a3 + 1))) h).bind (fun x52 =>
  if inB (a3 + 1) q0 = true then
  ((f_M_breaks N (xs (iN (a3 + 1))) x52.2).bind (fun x53 =>
  if x52.1 = x53.1 then
  (let v54 : Int32 := a3 + 6
  bk q0 v54 x53.2)
  else
  (some (0, x53.2))))
  else none))
  else none)
  else
  (if ((xs (iN a3)) &&& 63) = nI 18 then
  (if inB (a3 + 1) q0 = true then
  (if inB (a3 + 2) q0 = true then
  (if inB (a3 + 3) q0 = true then
  (if inB (a3 + 4) q0 = true then
  ((f_S_slow N (xs (iN (a3 + 1))) (xs (iN (a3 + 2))) (xs (iN (a3 + 3))) (xs (iN (a3 + 4))) h).bind (fun x55 =>
  if inB (a3 + 1) q0 = true then
  (if inB (a3 + 2) q0 = true then
  (if inB (a3 + 3) q0 = true then
  (if inB (a3 + 4) q0 = true then
  ((f_M_slow N (xs (iN (a3 + 1))) (xs (iN (a3 + 2))) (xs (iN (a3 + 3))) (xs (iN (a3 + 4))) x55.2).bind (fun x56 =>
  if x55.1 = x56.1 then
  (let v57 : Int32 := a3 + 6
  bk q0 v57 x56.2)
  else
  (some (0, x56.2))))
  else none)
  else none)
  else none)
  else none))
  else none)
  else none)
  else none)
  else none)
  else
  (if ((xs (iN a3)) &&& 63) = nI 19 then
  (if inB (a3 + 1) q0 = true then
  ((f_S_smooth N (xs (iN (a3 + 1))) h).bind (fun x58 =>
  if inB (a3 + 1) q0 = true then
  ((f_M_smooth N (xs (iN (a3 + 1))) x58.2).bind (fun x59 =>
  if x58.1 = x59.1 then
  (let v60 : Int32 := a3 + 6
  bk q0 v60 x59.2)
  else
  (some (0, x59.2))))
  else none))
  else none)
  else
  (if ((xs (iN a3)) &&& 63) = nI 20 then
  (if inB (a3 + 1) q0 = true then
  (if inB (a3 + 2) q0 = true then
  ((f_S_slips N (xs (iN (a3 + 1))) (xs (iN (a3 + 2))) h).bind (fun x61 =>
  if inB (a3 + 1) q0 = true then
  (if inB (a3 + 2) q0 = true then
  ((f_M_slips N (xs (iN (a3 + 1))) (xs (iN (a3 + 2))) x61.2).bind (fun x62 =>
  if x61.1 = x62.1 then
  (let v63 : Int32 := a3 + 6
  bk q0 v63 x62.2)
  else
  (some (0, x62.2))))
  else none)
  else none))
  else none)
  else none)
  else
  (if ((xs (iN a3)) &&& 63) = nI 21 then
  (if inB (a3 + 1) q0 = true then
  (if inB (a3 + 2) q0 = true then
  (if inB (a3 + 3) q0 = true then
  (if inB (a3 + 4) q0 = true then
  ((f_S_ends N (xs (iN (a3 + 1))) (xs (iN (a3 + 2))) (xs (iN (a3 + 3))) (xs (iN (a3 + 4))) h).bind (fun x64 =>
  if inB (a3 + 1) q0 = true then
  (if inB (a3 + 2) q0 = true then
  (if inB (a3 + 3) q0 = true then
  (if inB (a3 + 4) q0 = true then
  ((f_M_ends N (xs (iN (a3 + 1))) (xs (iN (a3 + 2))) (xs (iN (a3 + 3))) (xs (iN (a3 + 4))) x64.2).bind (fun x65 =>
  if x64.1 = x65.1 then
  (let v66 : Int32 := a3 + 6
  bk q0 v66 x65.2)
  else
  (some (0, x65.2))))
  else none)
  else none)
  else none)
  else none))
  else none)
  else none)
  else none)
  else none)
  else
  (if ((xs (iN a3)) &&& 63) = nI 22 then
  (if inB (a3 + 1) q0 = true then
  (if inB (a3 + 2) q0 = true then
  (if inB (a3 + 3) q0 = true then
  ((f_S_first N (xs (iN (a3 + 1))) (xs (iN (a3 + 2))) (xs (iN (a3 + 3))) h).bind (fun x67 =>
  if inB (a3 + 1) q0 = true then
  (if inB (a3 + 2) q0 = true then
  (if inB (a3 + 3) q0 = true then
  ((f_M_first N (xs (iN (a3 + 1))) (xs (iN (a3 + 2))) (xs (iN (a3 + 3))) x67.2).bind (fun x68 =>
  if x67.1 = x68.1 then
  (let v69 : Int32 := a3 + 6
  bk q0 v69 x68.2)
  else
  (some (0, x68.2))))
  else none)
  else none)
  else none))
  else none)
  else none)
  else none)
  else
  (if ((xs (iN a3)) &&& 63) = nI 23 then
  (if inB (a3 + 1) q0 = true then
  (if inB (a3 + 2) q0 = true then
  ((f_S_corner N (xs (iN (a3 + 1))) (xs (iN (a3 + 2))) h).bind (fun x70 =>
  if inB (a3 + 1) q0 = true then
  (if inB (a3 + 2) q0 = true then
  ((f_M_corner N (xs (iN (a3 + 1))) (xs (iN (a3 + 2))) x70.2).bind (fun x71 =>
  if x70.1 = x71.1 then
  (let v72 : Int32 := a3 + 6
  bk q0 v72 x71.2)
  else
  (some (0, x71.2))))
  else none)
  else none))
  else none)
  else none)
  else
  (if ((xs (iN a3)) &&& 63) = nI 24 then
  (if inB (a3 + 1) q0 = true then
  (if inB (a3 + 2) q0 = true then
  (if inB (a3 + 3) q0 = true then
  ((f_S_quarrel N (xs (iN (a3 + 1))) (xs (iN (a3 + 2))) (xs (iN (a3 + 3))) h).bind (fun x73 =>
  if inB (a3 + 1) q0 = true then
  (if inB (a3 + 2) q0 = true then
  (if inB (a3 + 3) q0 = true then
  ((f_M_quarrel N (xs (iN (a3 + 1))) (xs (iN (a3 + 2))) (xs (iN (a3 + 3))) x73.2).bind (fun x74 =>
  if x73.1 = x74.1 then
  (let v75 : Int32 := a3 + 6
  bk q0 v75 x74.2)
  else
  (some (0, x74.2))))
  else none)
  else none)
  else none))
  else none)
  else none)
  else none)
  else
  (if ((xs (iN a3)) &&& 63) = nI 25 then
  (if inB (a3 + 1) q0 = true then
  (if inB (a3 + 2) q0 = true then
  (if inB (a3 + 3) q0 = true then
  ((f_S_without N (xs (iN (a3 + 1))) (xs (iN (a3 + 2))) (xs (iN (a3 + 3))) h).bind (fun x76 =>
  if inB (a3 + 1) q0 = true then
  (if inB (a3 + 2) q0 = true then
  (if inB (a3 + 3) q0 = true then
  ((f_M_without N (xs (iN (a3 + 1))) (xs (iN (a3 + 2))) (xs (iN (a3 + 3))) x76.2).bind (fun x77 =>
  if x76.1 = x77.1 then
  (let v78 : Int32 := a3 + 6
  bk q0 v78 x77.2)
  else
  (some (0, x77.2))))
  else none)
  else none)
  else none))
  else none)
  else none)
  else none)
  else
  (if ((xs (iN a3)) &&& 63) = nI 26 then
  (if inB (a3 + 1) q0 = true then
  (if inB (a3 + 2) q0 = true then
  ((f_S_rank N (xs (iN (a3 + 1))) (xs (iN (a3 + 2))) h).bind (fun x79 =>
  if inB (a3 + 1) q0 = true then
  (if inB (a3 + 2) q0 = true then
  ((f_M_rank N (xs (iN (a3 + 1))) (xs (iN (a3 + 2))) x79.2).bind (fun x80 =>
  if x79.1 = x80.1 then
  (let v81 : Int32 := a3 + 6
  bk q0 v81 x80.2)
  else
  (some (0, x80.2))))
  else none)
  else none))
  else none)
  else none)
  else
  (if ((xs (iN a3)) &&& 63) = nI 27 then
  (if inB (a3 + 1) q0 = true then
  (if inB (a3 + 2) q0 = true then
  ((f_S_apart N (xs (iN (a3 + 1))) (xs (iN (a3 + 2))) h).bind (fun x82 =>
  if inB (a3 + 1) q0 = true then
  (if inB (a3 + 2) q0 = true then
  ((f_M_apart N (xs (iN (a3 + 1))) (xs (iN (a3 + 2))) x82.2).bind (fun x83 =>
  if x82.1 = x83.1 then
  (let v84 : Int32 := a3 + 6
  bk q0 v84 x83.2)
  else
  (some (0, x83.2))))
  else none)
  else none))
  else none)
  else none)
  else
  (if ((xs (iN a3)) &&& 63) = nI 28 then
  (if inB (a3 + 1) q0 = true then
  (if inB (a3 + 2) q0 = true then
  (if inB (a3 + 3) q0 = true then
  (if inB (a3 + 4) q0 = true then
  ((f_S_odds N (xs (iN (a3 + 1))) (xs (iN (a3 + 2))) (xs (iN (a3 + 3))) (xs (iN (a3 + 4))) h).bind (fun x85 =>
  if inB (a3 + 1) q0 = true then
  (if inB (a3 + 2) q0 = true then
  (if inB (a3 + 3) q0 = true then
  (if inB (a3 + 4) q0 = true then
  ((f_M_odds N (xs (iN (a3 + 1))) (xs (iN (a3 + 2))) (xs (iN (a3 + 3))) (xs (iN (a3 + 4))) x85.2).bind (fun x86 =>
  if x85.1 = x86.1 then
  (let v87 : Int32 := a3 + 6
  bk q0 v87 x86.2)
  else
  (some (0, x86.2))))
  else none)
  else none)
  else none)
  else none))
  else none)
  else none)
  else none)
  else none)
  else
  (if ((xs (iN a3)) &&& 63) = nI 29 then
  (if inB (a3 + 1) q0 = true then
  (if inB (a3 + 2) q0 = true then
  (if inB (a3 + 3) q0 = true then
  ((f_S_shake N (xs (iN (a3 + 1))) (xs (iN (a3 + 2))) (xs (iN (a3 + 3))) h).bind (fun x88 =>
  if inB (a3 + 1) q0 = true then
  (if inB (a3 + 2) q0 = true then
  (if inB (a3 + 3) q0 = true then
  ((f_M_shake N (xs (iN (a3 + 1))) (xs (iN (a3 + 2))) (xs (iN (a3 + 3))) x88.2).bind (fun x89 =>
  if x88.1 = x89.1 then
  (let v90 : Int32 := a3 + 6
  bk q0 v90 x89.2)
  else
  (some (0, x89.2))))
  else none)
  else none)
  else none))
  else none)
  else none)
  else none)
  else
  (if ((xs (iN a3)) &&& 63) = nI 30 then
  (if inB (a3 + 1) q0 = true then
  (if inB (a3 + 2) q0 = true then
  (if inB (a3 + 3) q0 = true then
  ((f_S_saved N (xs (iN (a3 + 1))) (xs (iN (a3 + 2))) (xs (iN (a3 + 3))) h).bind (fun x91 =>
  if inB (a3 + 1) q0 = true then
  (if inB (a3 + 2) q0 = true then
  (if inB (a3 + 3) q0 = true then
  ((f_M_saved N (xs (iN (a3 + 1))) (xs (iN (a3 + 2))) (xs (iN (a3 + 3))) x91.2).bind (fun x92 =>
  if x91.1 = x92.1 then
  (let v93 : Int32 := a3 + 6
  bk q0 v93 x92.2)
  else
  (some (0, x92.2))))
  else none)
  else none)
  else none))
  else none)
  else none)
  else none)
  else
  (if ((xs (iN a3)) &&& 63) = nI 31 then
  (if inB (a3 + 1) q0 = true then
  (if inB (a3 + 2) q0 = true then
  ((f_S_net N (xs (iN (a3 + 1))) (xs (iN (a3 + 2))) h).bind (fun x94 =>
  if inB (a3 + 1) q0 = true then
  (if inB (a3 + 2) q0 = true then
  ((f_M_net N (xs (iN (a3 + 1))) (xs (iN (a3 + 2))) x94.2).bind (fun x95 =>
  if x94.1 = x95.1 then
  (let v96 : Int32 := a3 + 6
  bk q0 v96 x95.2)
  else
  (some (0, x95.2))))
  else none)
  else none))
  else none)
  else none)
  else
  (if ((xs (iN a3)) &&& 63) = nI 32 then
  (if inB (a3 + 1) q0 = true then
  ((f_S_netTold N (xs (iN (a3 + 1))) h).bind (fun x97 =>
  if inB (a3 + 1) q0 = true then
  ((f_M_netTold N (xs (iN (a3 + 1))) x97.2).bind (fun x98 =>
  if x97.1 = x98.1 then
  (let v99 : Int32 := a3 + 6
  bk q0 v99 x98.2)
  else
  (some (0, x98.2))))
  else none))
  else none)
  else
  (if ((xs (iN a3)) &&& 63) = nI 33 then
  (if inB (a3 + 1) q0 = true then
  (if inB (a3 + 2) q0 = true then
  (if inB (a3 + 3) q0 = true then
  (if inB (a3 + 4) q0 = true then
  ((f_S_few N (xs (iN (a3 + 1))) (xs (iN (a3 + 2))) (xs (iN (a3 + 3))) (xs (iN (a3 + 4))) h).bind (fun x100 =>
  if inB (a3 + 1) q0 = true then
  (if inB (a3 + 2) q0 = true then
  (if inB (a3 + 3) q0 = true then
  (if inB (a3 + 4) q0 = true then
  ((f_M_few N (xs (iN (a3 + 1))) (xs (iN (a3 + 2))) (xs (iN (a3 + 3))) (xs (iN (a3 + 4))) x100.2).bind (fun x101 =>
  if x100.1 = x101.1 then
  (let v102 : Int32 := a3 + 6
  bk q0 v102 x101.2)
  else
  (some (0, x101.2))))
  else none)
  else none)
  else none)
  else none))
  else none)
  else none)
  else none)
  else none)
  else
  (if ((xs (iN a3)) &&& 63) = nI 34 then
  (if inB (a3 + 1) q0 = true then
  ((f_S_fewOf N (xs (iN (a3 + 1))) h).bind (fun x103 =>
  if inB (a3 + 1) q0 = true then
  ((f_M_fewOf N (xs (iN (a3 + 1))) x103.2).bind (fun x104 =>
  if x103.1 = x104.1 then
  (let v105 : Int32 := a3 + 6
  bk q0 v105 x104.2)
  else
  (some (0, x104.2))))
  else none))
  else none)
  else
  (let v106 : Int32 := a3 + 6
  bk q0 v106 h))))))))))))))))))))))))))))))))))))
  else none)
def L_Law_law (N : Nat) (xs : Nat → Int32) : Nat → (Nat → Int32 → MH → Option (Int32 × MH))
  | 0 => fun _ _ _ => none
  | n + 1 => F_Law_law_18 N xs (L_Law_law N xs n)
def f_Law_law (N : Nat) (xs : Nat → Int32) (q0 : Nat) (a3 : Int32) (h : MH) : Option (Int32 × MH) := F_Law_law_18 N xs (L_Law_law N xs N) q0 a3 h
def C_Law_law (N : Nat) (xs : Nat → Int32) : MC := (KDL, false, xs, jsB, (fun j => match Nat.beq j 109 with
    | true => w_S_status (f_S_status N)
    | false => match Nat.beq j 112 with
    | true => w_S_tray (f_S_tray N)
    | false => match Nat.beq j 113 with
    | true => w_S_write (f_S_write N)
    | false => match Nat.beq j 115 with
    | true => w_S_pour (f_S_pour N)
    | false => match Nat.beq j 116 with
    | true => w_S_feed (f_S_feed N)
    | false => match Nat.beq j 117 with
    | true => w_S_land (f_S_land N)
    | false => match Nat.beq j 118 with
    | true => w_S_fault (f_S_fault N)
    | false => match Nat.beq j 119 with
    | true => w_S_many (f_S_many N)
    | false => match Nat.beq j 120 with
    | true => w_S_moves (f_S_moves N)
    | false => match Nat.beq j 121 with
    | true => w_S_row (f_S_row N)
    | false => match Nat.beq j 122 with
    | true => w_S_offset (f_S_offset N)
    | false => match Nat.beq j 123 with
    | true => w_S_asof (f_S_asof N)
    | false => match Nat.beq j 124 with
    | true => w_S_value (f_S_value N)
    | false => match Nat.beq j 125 with
    | true => w_S_line (f_S_line N)
    | false => match Nat.beq j 126 with
    | true => w_S_breaks (f_S_breaks N)
    | false => match Nat.beq j 127 with
    | true => w_S_slow (f_S_slow N)
    | false => match Nat.beq j 128 with
    | true => w_S_smooth (f_S_smooth N)
    | false => match Nat.beq j 129 with
    | true => w_S_slips (f_S_slips N)
    | false => match Nat.beq j 130 with
    | true => w_S_ends (f_S_ends N)
    | false => match Nat.beq j 131 with
    | true => w_S_first (f_S_first N)
    | false => match Nat.beq j 132 with
    | true => w_S_corner (f_S_corner N)
    | false => match Nat.beq j 133 with
    | true => w_S_quarrel (f_S_quarrel N)
    | false => match Nat.beq j 134 with
    | true => w_S_without (f_S_without N)
    | false => match Nat.beq j 135 with
    | true => w_S_rank (f_S_rank N)
    | false => match Nat.beq j 136 with
    | true => w_S_apart (f_S_apart N)
    | false => match Nat.beq j 137 with
    | true => w_S_odds (f_S_odds N)
    | false => match Nat.beq j 138 with
    | true => w_S_shake (f_S_shake N)
    | false => match Nat.beq j 139 with
    | true => w_S_saved (f_S_saved N)
    | false => match Nat.beq j 140 with
    | true => w_S_net (f_S_net N)
    | false => match Nat.beq j 141 with
    | true => w_S_netTold (f_S_netTold N)
    | false => match Nat.beq j 142 with
    | true => w_S_few (f_S_few N)
    | false => match Nat.beq j 143 with
    | true => w_S_fewOf (f_S_fewOf N)
    | false => match Nat.beq j 164 with
    | true => w_M_status (f_M_status N)
    | false => match Nat.beq j 173 with
    | true => w_M_tray (f_M_tray N)
    | false => match Nat.beq j 175 with
    | true => w_M_write (f_M_write N)
    | false => match Nat.beq j 177 with
    | true => w_M_pour (f_M_pour N)
    | false => match Nat.beq j 178 with
    | true => w_M_feed (f_M_feed N)
    | false => match Nat.beq j 203 with
    | true => w_M_land (f_M_land N)
    | false => match Nat.beq j 204 with
    | true => w_M_fault (f_M_fault N)
    | false => match Nat.beq j 207 with
    | true => w_M_many (f_M_many N)
    | false => match Nat.beq j 208 with
    | true => w_M_moves (f_M_moves N)
    | false => match Nat.beq j 212 with
    | true => w_M_row (f_M_row N)
    | false => match Nat.beq j 213 with
    | true => w_M_offset (f_M_offset N)
    | false => match Nat.beq j 214 with
    | true => w_M_asof (f_M_asof N)
    | false => match Nat.beq j 217 with
    | true => w_M_value (f_M_value N)
    | false => match Nat.beq j 222 with
    | true => w_M_line (f_M_line N)
    | false => match Nat.beq j 223 with
    | true => w_M_breaks (f_M_breaks N)
    | false => match Nat.beq j 225 with
    | true => w_M_slow (f_M_slow N)
    | false => match Nat.beq j 226 with
    | true => w_M_smooth (f_M_smooth N)
    | false => match Nat.beq j 236 with
    | true => w_M_slips (f_M_slips N)
    | false => match Nat.beq j 237 with
    | true => w_M_ends (f_M_ends N)
    | false => match Nat.beq j 238 with
    | true => w_M_first (f_M_first N)
    | false => match Nat.beq j 239 with
    | true => w_M_corner (f_M_corner N)
    | false => match Nat.beq j 242 with
    | true => w_M_quarrel (f_M_quarrel N)
    | false => match Nat.beq j 243 with
    | true => w_M_without (f_M_without N)
    | false => match Nat.beq j 244 with
    | true => w_M_odds (f_M_odds N)
    | false => match Nat.beq j 247 with
    | true => w_M_rank (f_M_rank N)
    | false => match Nat.beq j 248 with
    | true => w_M_apart (f_M_apart N)
    | false => match Nat.beq j 249 with
    | true => w_M_shake (f_M_shake N)
    | false => match Nat.beq j 250 with
    | true => w_M_saved (f_M_saved N)
    | false => match Nat.beq j 251 with
    | true => w_M_net (f_M_net N)
    | false => match Nat.beq j 252 with
    | true => w_M_netTold (f_M_netTold N)
    | false => match Nat.beq j 253 with
    | true => w_M_few (f_M_few N)
    | false => match Nat.beq j 254 with
    | true => w_M_fewOf (f_M_fewOf N)
    | false => fun _ _ => none), (fun j => match Nat.beq j 110 with
    | true => w_S_top (f_S_top N)
    | false => match Nat.beq j 111 with
    | true => w_S_bottom (f_S_bottom N)
    | false => match Nat.beq j 114 with
    | true => w_S_read (f_S_read N)
    | false => match Nat.beq j 165 with
    | true => w_M_top (f_M_top N)
    | false => match Nat.beq j 166 with
    | true => w_M_bottom (f_M_bottom N)
    | false => match Nat.beq j 176 with
    | true => w_M_read (f_M_read N)
    | false => fun _ _ => none), (fun _ _ _ => none), (fun _ _ _ => none))
def D_Law_law (N : Nat) (xs : Nat → Int32) (n pc : Nat) (lv : ML) (st : List MV) (h : MH) : Option (Int32 × MH) :=
  match Nat.beq pc 18 with
  | true => (match lk lv 0, lk lv 1, lk lv 2, lk lv 3, st with
    | some (.inr (.inr (7, q0, 0))), some (.inr (.inr (0, 11, 1))), some (.inr (.inr (0, 12, 68))), some (.inl a3), [] => F_Law_law_18 N xs (L_Law_law N xs n) q0 a3 h
    | _, _, _, _, _ => none)
  | false => none
def B_Law_law (N : Nat) (xs : Nat → Int32) (n pc : Nat) (lv : ML) (st : List MV) (h : MH) : Option (Int32 × MH) :=
  match Nat.beq pc 18 with
  | true => (match lk lv 0, lk lv 1, lk lv 2, lk lv 3, st with
    | some (.inr (.inr (7, q0, 0))), some (.inr (.inr (0, 11, 1))), some (.inr (.inr (0, 12, 68))), some (.inl a3), [] => ((L_Law_law N xs n)) q0 a3 h
    | _, _, _, _, _ => none)
  | false => none
set_option maxRecDepth 1000000 in
theorem E_Law_law_18 (N : Nat) (xs : Nat → Int32) (n : Nat) (q0 : Nat) (a3 : Int32) (h : MH) : seg (C_Law_law N xs) 4 1 rI T_Law_law [18] (fun q lv st h => match Nat.ble 19 q with
    | true => D_Law_law N xs n q lv st h
    | false => B_Law_law N xs n q lv st h) 400 true 18 [(0, .inr (.inr (7, q0, 0))), (1, .inr (.inr (0, 11, 1))), (2, .inr (.inr (0, 12, 68))), (3, .inl a3)] [] h = F_Law_law_18 N xs (L_Law_law N xs n) q0 a3 h := (rfl)
