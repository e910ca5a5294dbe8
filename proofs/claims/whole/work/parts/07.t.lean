def T_M_cell : List (List (Option RW)) := [
  [some (.aload_n 0, 1, [0], 0, 0), some (.invokevirtual 278, 3, [0, 190, 1, 1], 0, 0), none, none, some (.lstore_n 1, 1, [1], 0, 0), some (.lload_n 1, 1, [1], 0, 0), some (.ldc2_w 199, 3, [], 0, (-1)), none, none, some (.lcmp, 1, [], 0, 0), some (.ifCond .ne 9, 3, [19], 0, 0), none, none, some (.aload_n 0, 1, [0], 0, 0), some (.iconst 2, 1, [], 2, 0), some (.invokevirtual 260, 3, [0, 186, 2, 0], 0, 0), none, none, some (.ireturn, 1, [], 0, 0), some (.aload_n 0, 1, [0], 0, 0), some (.lload_n 1, 1, [1], 0, 0), some (.invokevirtual 282, 3, [0, 191, 2, 0], 0, 0), none, none, some (.istore_n 3, 1, [3], 0, 0), some (.iload_n 3, 1, [3], 0, 0), some (.iconst (-1), 1, [], (-1), 0), some (.if_icmp .ne 9, 3, [36], 0, 0), none, none, some (.aload_n 0, 1, [0], 0, 0), some (.iconst 3, 1, [], 3, 0)],
  [some (.invokevirtual 260, 3, [0, 186, 2, 0], 0, 0), none, none, some (.ireturn, 1, [], 0, 0), some (.aload_n 0, 1, [0], 0, 0), some (.invokevirtual 263, 3, [0, 183, 1, 3], 0, 0), none, none, some (.aload_n 0, 1, [0], 0, 0), some (.iconst 0, 1, [], 0, 0), some (.aload_n 0, 1, [0], 0, 0), some (.getfield 47, 3, [12, 20, 2, 1, 6, 9], 0, 0), none, none, some (.iload_n 3, 1, [3], 0, 0), some (.iaload, 1, [], 0, 0), some (.iconst 1, 1, [], 1, 0), some (.isub, 1, [], 0, 0), some (.invokevirtual 286, 3, [0, 193, 3, 0], 0, 0), none, none, some (.ifCond .ne 5, 3, [58], 0, 0), none, none, some (.iconst 0, 1, [], 0, 0), some (.ireturn, 1, [], 0, 0), some (.aload_n 0, 1, [0], 0, 0), some (.dup, 1, [], 0, 0), some (.getfield 275, 3, [12, 39, 0], 0, 0), none, none, some (.aload_n 0, 1, [0], 0, 0)],
  [some (.getfield 44, 3, [12, 19, 2, 1, 6, 8], 0, 0), none, none, some (.iload_n 3, 1, [3], 0, 0), some (.iaload, 1, [], 0, 0), some (.iadd, 1, [], 0, 0), some (.putfield 275, 3, [12, 39, 0], 0, 0), none, none, some (.iconst 1, 1, [], 1, 0), some (.ireturn, 1, [], 0, 0)]]
def f_M_cell (N : Nat) (h : MH) : Option (Int32 × MH) :=
  (f_M_nameHere N h).bind (fun x1 =>
  if (lg_cmp x1.1 ((-1))) = 0 then
  ((f_M_fails N 2 x1.2).bind (fun x2 =>
  match narOK 1 x2.1 with
  | true => some (x2.1, x2.2)
  | false => none))
  else
  ((f_M_sheetOf N x1.1 x1.2).bind (fun x3 =>
  if x3.1 = ((-1)) then
  ((f_M_fails N 3 x3.2).bind (fun x4 =>
  match narOK 1 x4.1 with
  | true => some (x4.1, x4.2)
  | false => none))
  else
  ((f_M_next N x3.2).bind (fun x5 =>
  if inB x3.1 6 = true then
  ((f_M_number N 0 ((gI x5 77 (iN x3.1)) - 1) x5).bind (fun x6 =>
  if x6.1 = 0 then
  (some (0, x6.2))
  else
  (if inB x3.1 6 = true then
  (let h7 : MH := sI x6.2 68 39 ((gI x6.2 68 39) + (gI x6.2 76 (iN x3.1)))
  some (1, h7))
  else none)))
  else none)))))
def C_M_cell (N : Nat) : MC := (KDL, false, (fun _ => 0), jsB, (fun j => match Nat.beq j 186 with
    | true => w_M_fails (f_M_fails N)
    | false => match Nat.beq j 191 with
    | true => w_M_sheetOf (f_M_sheetOf N)
    | false => match Nat.beq j 193 with
    | true => w_M_number (f_M_number N)
    | false => fun _ _ => none), (fun j => match Nat.beq j 190 with
    | true => w_M_nameHere (f_M_nameHere N)
    | false => fun _ _ => none), (fun _ _ _ => none), (fun j => match Nat.beq j 183 with
    | true => w_M_next (f_M_next N)
    | false => fun _ _ => none))
def D_M_cell (N : Nat) (n pc : Nat) (lv : ML) (st : List MV) (h : MH) : Option (Int32 × MH) :=
  match Nat.beq pc 0 with
  | true => (match lk lv 0, st with
    | some (.inr (.inr (0, 12, 68))), [] => f_M_cell N h
    | _, _ => none)
  | false => none
set_option maxRecDepth 1000000 in
theorem E_M_cell_0 (N : Nat) (n : Nat) (h : MH) : seg (C_M_cell N) 4 1 rI T_M_cell [0] (fun q lv st h => match Nat.ble 1 q with
    | true => D_M_cell N n q lv st h
    | false => none) 400 true 0 [(0, .inr (.inr (0, 12, 68)))] [] h = f_M_cell N h := (rfl)
def T_M_sheet : List (List (Option RW)) := [
  [some (.aload_n 0, 1, [0], 0, 0), some (.invokevirtual 263, 3, [0, 183, 1, 3], 0, 0), none, none, some (.aload_n 0, 1, [0], 0, 0), some (.invokevirtual 278, 3, [0, 190, 1, 1], 0, 0), none, none, some (.lstore_n 1, 1, [1], 0, 0), some (.lload_n 1, 1, [1], 0, 0), some (.ldc2_w 199, 3, [], 0, (-1)), none, none, some (.lcmp, 1, [], 0, 0), some (.ifCond .ne 9, 3, [23], 0, 0), none, none, some (.aload_n 0, 1, [0], 0, 0), some (.iconst 2, 1, [], 2, 0), some (.invokevirtual 260, 3, [0, 186, 2, 0], 0, 0), none, none, some (.ireturn, 1, [], 0, 0), some (.aload_n 0, 1, [0], 0, 0), some (.lload_n 1, 1, [1], 0, 0), some (.invokevirtual 282, 3, [0, 191, 2, 0], 0, 0), none, none, some (.iconst (-1), 1, [], (-1), 0), some (.if_icmp .ne 12, 3, [41], 0, 0), none, none],
  [some (.aload_n 0, 1, [0], 0, 0), some (.lload_n 1, 1, [1], 0, 0), some (.invokevirtual 289, 3, [0, 192, 2, 0], 0, 0), none, none, some (.iconst (-1), 1, [], (-1), 0), some (.if_icmp .eq 9, 3, [47], 0, 0), none, none, some (.aload_n 0, 1, [0], 0, 0), some (.iconst 3, 1, [], 3, 0), some (.invokevirtual 260, 3, [0, 186, 2, 0], 0, 0), none, none, some (.ireturn, 1, [], 0, 0), some (.aload_n 0, 1, [0], 0, 0), some (.invokevirtual 263, 3, [0, 183, 1, 3], 0, 0), none, none, some (.aload_n 0, 1, [0], 0, 0), some (.iconst 5, 1, [], 5, 0), some (.invokevirtual 292, 3, [0, 188, 2, 0], 0, 0), none, none, some (.ifCond .ne 5, 3, [61], 0, 0), none, none, some (.iconst 0, 1, [], 0, 0), some (.ireturn, 1, [], 0, 0), some (.aload_n 0, 1, [0], 0, 0), some (.getfield 223, 3, [12, 10, 0], 0, 0), none],
  [none, some (.iconst 3, 1, [], 3, 0), some (.if_icmp .ne 41, 3, [107], 0, 0), none, none, some (.aload_n 0, 1, [0], 0, 0), some (.getfield 220, 3, [12, 13, 0], 0, 0), none, none, some (.iconst 1, 1, [], 1, 0), some (.if_icmp .lt 33, 3, [107], 0, 0), none, none, some (.aload_n 0, 1, [0], 0, 0), some (.getfield 220, 3, [12, 13, 0], 0, 0), none, none, some (.bipush 6, 2, [], 6, 0), none, some (.if_icmp .gt 24, 3, [107], 0, 0), none, none, some (.aload_n 0, 1, [0], 0, 0), some (.getfield 295, 3, [12, 29, 0], 0, 0), none, none, some (.aload_n 0, 1, [0], 0, 0), some (.getfield 220, 3, [12, 13, 0], 0, 0), none, none, some (.iadd, 1, [], 0, 0), some (.bipush 6, 2, [], 6, 0)],
  [none, some (.if_icmp .le 10, 3, [107], 0, 0), none, none, some (.aload_n 0, 1, [0], 0, 0), some (.bipush 6, 2, [], 6, 0), none, some (.invokevirtual 260, 3, [0, 186, 2, 0], 0, 0), none, none, some (.ireturn, 1, [], 0, 0), some (.aload_n 0, 1, [0], 0, 0), some (.iconst 1, 1, [], 1, 0), some (.bipush 6, 2, [], 6, 0), none, some (.invokevirtual 286, 3, [0, 193, 3, 0], 0, 0), none, none, some (.ifCond .ne 5, 3, [119], 0, 0), none, none, some (.iconst 0, 1, [], 0, 0), some (.ireturn, 1, [], 0, 0), some (.aload_n 0, 1, [0], 0, 0), some (.getfield 275, 3, [12, 39, 0], 0, 0), none, none, some (.istore_n 3, 1, [3], 0, 0), some (.aload_n 0, 1, [0], 0, 0), some (.bipush 6, 2, [], 6, 0), none, some (.invokevirtual 292, 3, [0, 188, 2, 0], 0, 0)],
  [none, none, some (.ifCond .eq 14, 3, [144], 0, 0), none, none, some (.aload_n 0, 1, [0], 0, 0), some (.iconst 0, 1, [], 0, 0), some (.sipush 999, 3, [], 999, 0), none, none, some (.invokevirtual 286, 3, [0, 193, 3, 0], 0, 0), none, none, some (.ifCond .ne 5, 3, [146], 0, 0), none, none, some (.iconst 0, 1, [], 0, 0), some (.ireturn, 1, [], 0, 0), some (.aload_n 0, 1, [0], 0, 0), some (.invokevirtual 298, 3, [0, 189, 1, 0], 0, 0), none, none, some (.ifCond .ne 5, 3, [155], 0, 0), none, none, some (.iconst 0, 1, [], 0, 0), some (.ireturn, 1, [], 0, 0), some (.aload_n 0, 1, [0], 0, 0), some (.getfield 38, 3, [12, 17, 2, 2, 6, 6], 0, 0), none, none, some (.aload_n 0, 1, [0], 0, 0)],
  [some (.getfield 269, 3, [12, 28, 0], 0, 0), none, none, some (.lload_n 1, 1, [1], 0, 0), some (.lastore, 1, [], 0, 0), some (.aload_n 0, 1, [0], 0, 0), some (.getfield 44, 3, [12, 19, 2, 1, 6, 8], 0, 0), none, none, some (.aload_n 0, 1, [0], 0, 0), some (.getfield 269, 3, [12, 28, 0], 0, 0), none, none, some (.aload_n 0, 1, [0], 0, 0), some (.getfield 295, 3, [12, 29, 0], 0, 0), none, none, some (.iastore, 1, [], 0, 0), some (.aload_n 0, 1, [0], 0, 0), some (.getfield 47, 3, [12, 20, 2, 1, 6, 9], 0, 0), none, none, some (.aload_n 0, 1, [0], 0, 0), some (.getfield 269, 3, [12, 28, 0], 0, 0), none, none, some (.iload_n 3, 1, [3], 0, 0), some (.iastore, 1, [], 0, 0), some (.aload_n 0, 1, [0], 0, 0), some (.dup, 1, [], 0, 0), some (.getfield 269, 3, [12, 28, 0], 0, 0), none],
  [none, some (.iconst 1, 1, [], 1, 0), some (.iadd, 1, [], 0, 0), some (.putfield 269, 3, [12, 28, 0], 0, 0), none, none, some (.iconst 0, 1, [], 0, 0), some (.istore 4, 2, [4], 0, 0), none, some (.iload 4, 2, [4], 0, 0), none, some (.iload_n 3, 1, [3], 0, 0), some (.if_icmp .ge 64, 3, [268], 0, 0), none, none, some (.aload_n 0, 1, [0], 0, 0), some (.getfield 50, 3, [12, 21, 2, 1, 6, 10], 0, 0), none, none, some (.aload_n 0, 1, [0], 0, 0), some (.getfield 295, 3, [12, 29, 0], 0, 0), none, none, some (.aload_n 0, 1, [0], 0, 0), some (.getfield 275, 3, [12, 39, 0], 0, 0), none, none, some (.iastore, 1, [], 0, 0), some (.aload_n 0, 1, [0], 0, 0), some (.getfield 53, 3, [12, 22, 2, 1, 6, 11], 0, 0), none, none],
  [some (.aload_n 0, 1, [0], 0, 0), some (.getfield 295, 3, [12, 29, 0], 0, 0), none, none, some (.bipush 100, 2, [], 100, 0), none, some (.iastore, 1, [], 0, 0), some (.aload_n 0, 1, [0], 0, 0), some (.getfield 56, 3, [12, 23, 2, 1, 6, 12], 0, 0), none, none, some (.aload_n 0, 1, [0], 0, 0), some (.getfield 295, 3, [12, 29, 0], 0, 0), none, none, some (.bipush 100, 2, [], 100, 0), none, some (.iastore, 1, [], 0, 0), some (.aload_n 0, 1, [0], 0, 0), some (.getfield 66, 3, [12, 26, 2, 4, 6, 15], 0, 0), none, none, some (.aload_n 0, 1, [0], 0, 0), some (.getfield 295, 3, [12, 29, 0], 0, 0), none, none, some (.iconst 0, 1, [], 0, 0), some (.bastore, 1, [], 0, 0), some (.aload_n 0, 1, [0], 0, 0), some (.dup, 1, [], 0, 0), some (.getfield 295, 3, [12, 29, 0], 0, 0), none],
  [none, some (.iconst 1, 1, [], 1, 0), some (.iadd, 1, [], 0, 0), some (.putfield 295, 3, [12, 29, 0], 0, 0), none, none, some (.iinc 4 1, 3, [4], 1, 0), none, none, some (.goto (-64), 3, [201], 0, 0), none, none, some (.iconst 1, 1, [], 1, 0), some (.ireturn, 1, [], 0, 0)]]
def F_M_sheet_201 (N : Nat) (bk : (Int32 → Int32 → MH → Option (Int32 × MH))) (a3 : Int32) (a4 : Int32) (h : MH) : Option (Int32 × MH) :=
  if a3 ≤ a4 then
  (some (1, h))
  else
  (if inB (gI h 68 29) 6 = true then
  (let h20 : MH := sI h 78 (iN (gI h 68 29)) (gI h 68 39)
  if inB (gI h20 68 29) 6 = true then
  (let h21 : MH := sI h20 79 (iN (gI h20 68 29)) 100
  if inB (gI h21 68 29) 6 = true then
  (let h22 : MH := sI h21 80 (iN (gI h21 68 29)) 100
  if inB (gI h22 68 29) 6 = true then
  (let h23 : MH := sI h22 83 (iN (gI h22 68 29)) ((0 : Int32) &&& 1)
  let h24 : MH := sI h23 68 29 ((gI h23 68 29) + 1)
  let v25 : Int32 := a4 + 1
  bk a3 v25 h24)
  else none)
  else none)
  else none)
  else none)
def F_M_sheet_107 (N : Nat) (bk : (Int32 → Int32 → MH → Option (Int32 × MH))) (a1 : Int64) (h : MH) : Option (Int32 × MH) :=
  (f_M_number N 1 6 h).bind (fun x11 =>
  if x11.1 = 0 then
  (some (0, x11.2))
  else
  (let v12 : Int32 := gI x11.2 68 39
  (f_M_wantKey N 6 x11.2).bind (fun x13 =>
  if x13.1 = 0 then
  (some (0, x13.2))
  else
  ((f_M_number N 0 999 x13.2).bind (fun x14 =>
  if x14.1 = 0 then
  (some (0, x14.2))
  else
  ((f_M_wantEnd N x14.2).bind (fun x15 =>
  if x15.1 = 0 then
  (some (0, x15.2))
  else
  (if inB (gI x15.2 68 28) 6 = true then
  (let h16 : MH := sJ x15.2 74 (iN (gI x15.2 68 28)) a1
  if inB (gI h16 68 28) 6 = true then
  (let h17 : MH := sI h16 76 (iN (gI h16 68 28)) (gI h16 68 29)
  if inB (gI h17 68 28) 6 = true then
  (let h18 : MH := sI h17 77 (iN (gI h17 68 28)) v12
  let h19 : MH := sI h18 68 28 ((gI h18 68 28) + 1)
  F_M_sheet_201 N bk v12 0 h19)
  else none)
  else none)
  else none))))))))
def F_M_sheet_0 (N : Nat) (bk : (Int32 → Int32 → MH → Option (Int32 × MH))) (h : MH) : Option (Int32 × MH) :=
  (f_M_next N h).bind (fun x1 =>
  (f_M_nameHere N x1).bind (fun x2 =>
  if (lg_cmp x2.1 ((-1))) = 0 then
  ((f_M_fails N 2 x2.2).bind (fun x3 =>
  match narOK 1 x3.1 with
  | true => some (x3.1, x3.2)
  | false => none))
  else
  ((f_M_sheetOf N x2.1 x2.2).bind (fun x4 =>
  if x4.1 = ((-1)) then
  ((f_M_markOf N x2.1 x4.2).bind (fun x5 =>
  if x5.1 = ((-1)) then
  ((f_M_next N x5.2).bind (fun x6 =>
  (f_M_wantKey N 5 x6).bind (fun x7 =>
  if x7.1 = 0 then
  (some (0, x7.2))
  else
  (if (gI x7.2 68 10) = 3 then
  (if (gI x7.2 68 13) < 1 then
  (F_M_sheet_107 N bk x2.1 x7.2)
  else
  (if 6 < (gI x7.2 68 13) then
  (F_M_sheet_107 N bk x2.1 x7.2)
  else
  (if ((gI x7.2 68 29) + (gI x7.2 68 13)) ≤ 6 then
  (F_M_sheet_107 N bk x2.1 x7.2)
  else
  ((f_M_fails N 6 x7.2).bind (fun x8 =>
  match narOK 1 x8.1 with
  | true => some (x8.1, x8.2)
  | false => none)))))
  else
  (F_M_sheet_107 N bk x2.1 x7.2)))))
  else
  ((f_M_fails N 3 x5.2).bind (fun x9 =>
  match narOK 1 x9.1 with
  | true => some (x9.1, x9.2)
  | false => none))))
  else
  ((f_M_fails N 3 x4.2).bind (fun x10 =>
  match narOK 1 x10.1 with
  | true => some (x10.1, x10.2)
  | false => none))))))
def L_M_sheet (N : Nat) : Nat → (Int32 → Int32 → MH → Option (Int32 × MH))
  | 0 => fun _ _ _ => none
  | n + 1 => F_M_sheet_201 N (L_M_sheet N n)
def f_M_sheet (N : Nat) (h : MH) : Option (Int32 × MH) := F_M_sheet_0 N (L_M_sheet N N) h
def C_M_sheet (N : Nat) : MC := (KDL, false, (fun _ => 0), jsB, (fun j => match Nat.beq j 186 with
    | true => w_M_fails (f_M_fails N)
    | false => match Nat.beq j 188 with
    | true => w_M_wantKey (f_M_wantKey N)
    | false => match Nat.beq j 189 with
    | true => w_M_wantEnd (f_M_wantEnd N)
    | false => match Nat.beq j 191 with
    | true => w_M_sheetOf (f_M_sheetOf N)
    | false => match Nat.beq j 192 with
    | true => w_M_markOf (f_M_markOf N)
    | false => match Nat.beq j 193 with
    | true => w_M_number (f_M_number N)
    | false => fun _ _ => none), (fun j => match Nat.beq j 190 with
    | true => w_M_nameHere (f_M_nameHere N)
    | false => fun _ _ => none), (fun _ _ _ => none), (fun j => match Nat.beq j 183 with
    | true => w_M_next (f_M_next N)
    | false => fun _ _ => none))
def D_M_sheet (N : Nat) (n pc : Nat) (lv : ML) (st : List MV) (h : MH) : Option (Int32 × MH) :=
  match Nat.beq pc 0 with
  | true => (match lk lv 0, st with
    | some (.inr (.inr (0, 12, 68))), [] => F_M_sheet_0 N (L_M_sheet N n) h
    | _, _ => none)
  | false => match Nat.beq pc 107 with
  | true => (match lk lv 0, lk lv 1, st with
    | some (.inr (.inr (0, 12, 68))), some (.inr (.inl a1)), [] => F_M_sheet_107 N (L_M_sheet N n) a1 h
    | _, _, _ => none)
  | false => match Nat.beq pc 201 with
  | true => (match lk lv 0, lk lv 3, lk lv 4, st with
    | some (.inr (.inr (0, 12, 68))), some (.inl a3), some (.inl a4), [] => F_M_sheet_201 N (L_M_sheet N n) a3 a4 h
    | _, _, _, _ => none)
  | false => none
def B_M_sheet (N : Nat) (n pc : Nat) (lv : ML) (st : List MV) (h : MH) : Option (Int32 × MH) :=
  match Nat.beq pc 201 with
  | true => (match lk lv 0, lk lv 3, lk lv 4, st with
    | some (.inr (.inr (0, 12, 68))), some (.inl a3), some (.inl a4), [] => ((L_M_sheet N n)) a3 a4 h
    | _, _, _, _ => none)
  | false => none
set_option maxRecDepth 1000000 in
theorem E_M_sheet_0 (N : Nat) (n : Nat) (h : MH) : seg (C_M_sheet N) 5 1 rI T_M_sheet [0, 107, 201] (fun q lv st h => match Nat.ble 1 q with
    | true => D_M_sheet N n q lv st h
    | false => B_M_sheet N n q lv st h) 400 true 0 [(0, .inr (.inr (0, 12, 68)))] [] h = F_M_sheet_0 N (L_M_sheet N n) h := (rfl)
set_option maxRecDepth 1000000 in
theorem E_M_sheet_107 (N : Nat) (n : Nat) (a1 : Int64) (h : MH) : seg (C_M_sheet N) 5 1 rI T_M_sheet [0, 107, 201] (fun q lv st h => match Nat.ble 108 q with
    | true => D_M_sheet N n q lv st h
    | false => B_M_sheet N n q lv st h) 400 true 107 [(0, .inr (.inr (0, 12, 68))), (1, .inr (.inl a1))] [] h = F_M_sheet_107 N (L_M_sheet N n) a1 h := (rfl)
set_option maxRecDepth 1000000 in
theorem E_M_sheet_201 (N : Nat) (n : Nat) (a3 : Int32) (a4 : Int32) (h : MH) : seg (C_M_sheet N) 5 1 rI T_M_sheet [0, 107, 201] (fun q lv st h => match Nat.ble 202 q with
    | true => D_M_sheet N n q lv st h
    | false => B_M_sheet N n q lv st h) 400 true 201 [(0, .inr (.inr (0, 12, 68))), (3, .inl a3), (4, .inl a4)] [] h = F_M_sheet_201 N (L_M_sheet N n) a3 a4 h := (rfl)
def T_M_mark : List (List (Option RW)) := [
  [some (.aload_n 0, 1, [0], 0, 0), some (.invokevirtual 263, 3, [0, 183, 1, 3], 0, 0), none, none, some (.aload_n 0, 1, [0], 0, 0), some (.invokevirtual 278, 3, [0, 190, 1, 1], 0, 0), none, none, some (.lstore_n 1, 1, [1], 0, 0), some (.lload_n 1, 1, [1], 0, 0), some (.ldc2_w 199, 3, [], 0, (-1)), none, none, some (.lcmp, 1, [], 0, 0), some (.ifCond .ne 9, 3, [23], 0, 0), none, none, some (.aload_n 0, 1, [0], 0, 0), some (.iconst 2, 1, [], 2, 0), some (.invokevirtual 260, 3, [0, 186, 2, 0], 0, 0), none, none, some (.ireturn, 1, [], 0, 0), some (.aload_n 0, 1, [0], 0, 0), some (.lload_n 1, 1, [1], 0, 0), some (.invokevirtual 282, 3, [0, 191, 2, 0], 0, 0), none, none, some (.iconst (-1), 1, [], (-1), 0), some (.if_icmp .ne 12, 3, [41], 0, 0), none, none],
  [some (.aload_n 0, 1, [0], 0, 0), some (.lload_n 1, 1, [1], 0, 0), some (.invokevirtual 289, 3, [0, 192, 2, 0], 0, 0), none, none, some (.iconst (-1), 1, [], (-1), 0), some (.if_icmp .eq 9, 3, [47], 0, 0), none, none, some (.aload_n 0, 1, [0], 0, 0), some (.iconst 3, 1, [], 3, 0), some (.invokevirtual 260, 3, [0, 186, 2, 0], 0, 0), none, none, some (.ireturn, 1, [], 0, 0), some (.aload_n 0, 1, [0], 0, 0), some (.getfield 272, 3, [12, 30, 0], 0, 0), none, none, some (.bipush 8, 2, [], 8, 0), none, some (.if_icmp .ne 10, 3, [63], 0, 0), none, none, some (.aload_n 0, 1, [0], 0, 0), some (.bipush 6, 2, [], 6, 0), none, some (.invokevirtual 260, 3, [0, 186, 2, 0], 0, 0), none, none, some (.ireturn, 1, [], 0, 0), some (.aload_n 0, 1, [0], 0, 0)],
  [some (.invokevirtual 263, 3, [0, 183, 1, 3], 0, 0), none, none, some (.aload_n 0, 1, [0], 0, 0), some (.invokevirtual 298, 3, [0, 189, 1, 0], 0, 0), none, none, some (.ifCond .ne 5, 3, [76], 0, 0), none, none, some (.iconst 0, 1, [], 0, 0), some (.ireturn, 1, [], 0, 0), some (.aload_n 0, 1, [0], 0, 0), some (.getfield 41, 3, [12, 18, 2, 2, 8, 7], 0, 0), none, none, some (.aload_n 0, 1, [0], 0, 0), some (.getfield 272, 3, [12, 30, 0], 0, 0), none, none, some (.lload_n 1, 1, [1], 0, 0), some (.lastore, 1, [], 0, 0), some (.aload_n 0, 1, [0], 0, 0), some (.dup, 1, [], 0, 0), some (.getfield 272, 3, [12, 30, 0], 0, 0), none, none, some (.iconst 1, 1, [], 1, 0), some (.iadd, 1, [], 0, 0), some (.putfield 272, 3, [12, 30, 0], 0, 0), none, none],
  [some (.iconst 1, 1, [], 1, 0), some (.ireturn, 1, [], 0, 0)]]
def f_M_mark (N : Nat) (h : MH) : Option (Int32 × MH) :=
  (f_M_next N h).bind (fun x1 =>
  (f_M_nameHere N x1).bind (fun x2 =>
  if (lg_cmp x2.1 ((-1))) = 0 then
  ((f_M_fails N 2 x2.2).bind (fun x3 =>
  match narOK 1 x3.1 with
  | true => some (x3.1, x3.2)
  | false => none))
  else
  ((f_M_sheetOf N x2.1 x2.2).bind (fun x4 =>
  if x4.1 = ((-1)) then
  ((f_M_markOf N x2.1 x4.2).bind (fun x5 =>
  if x5.1 = ((-1)) then
  (if (gI x5.2 68 30) = 8 then
  ((f_M_fails N 6 x5.2).bind (fun x6 =>
  match narOK 1 x6.1 with
  | true => some (x6.1, x6.2)
  | false => none))
  else
  ((f_M_next N x5.2).bind (fun x7 =>
  (f_M_wantEnd N x7).bind (fun x8 =>
  if x8.1 = 0 then
  (some (0, x8.2))
  else
  (if inB (gI x8.2 68 30) 8 = true then
  (let h9 : MH := sJ x8.2 75 (iN (gI x8.2 68 30)) x2.1
  let h10 : MH := sI h9 68 30 ((gI h9 68 30) + 1)
  some (1, h10))
  else none)))))
  else
  ((f_M_fails N 3 x5.2).bind (fun x11 =>
  match narOK 1 x11.1 with
  | true => some (x11.1, x11.2)
  | false => none))))
  else
  ((f_M_fails N 3 x4.2).bind (fun x12 =>
  match narOK 1 x12.1 with
  | true => some (x12.1, x12.2)
  | false => none))))))
def C_M_mark (N : Nat) : MC := (KDL, false, (fun _ => 0), jsB, (fun j => match Nat.beq j 186 with
    | true => w_M_fails (f_M_fails N)
    | false => match Nat.beq j 189 with
    | true => w_M_wantEnd (f_M_wantEnd N)
    | false => match Nat.beq j 191 with
    | true => w_M_sheetOf (f_M_sheetOf N)
    | false => match Nat.beq j 192 with
    | true => w_M_markOf (f_M_markOf N)
    | false => fun _ _ => none), (fun j => match Nat.beq j 190 with
    | true => w_M_nameHere (f_M_nameHere N)
    | false => fun _ _ => none), (fun _ _ _ => none), (fun j => match Nat.beq j 183 with
    | true => w_M_next (f_M_next N)
    | false => fun _ _ => none))
def D_M_mark (N : Nat) (n pc : Nat) (lv : ML) (st : List MV) (h : MH) : Option (Int32 × MH) :=
  match Nat.beq pc 0 with
  | true => (match lk lv 0, st with
    | some (.inr (.inr (0, 12, 68))), [] => f_M_mark N h
    | _, _ => none)
  | false => none
set_option maxRecDepth 1000000 in
theorem E_M_mark_0 (N : Nat) (n : Nat) (h : MH) : seg (C_M_mark N) 3 1 rI T_M_mark [0] (fun q lv st h => match Nat.ble 1 q with
    | true => D_M_mark N n q lv st h
    | false => none) 400 true 0 [(0, .inr (.inr (0, 12, 68)))] [] h = f_M_mark N h := (rfl)
def T_M_near : List (List (Option RW)) := [
  [some (.aload_n 0, 1, [0], 0, 0), some (.getfield 217, 3, [12, 11, 0], 0, 0), none, none, some (.istore_n 1, 1, [1], 0, 0), some (.aload_n 0, 1, [0], 0, 0), some (.invokevirtual 263, 3, [0, 183, 1, 3], 0, 0), none, none, some (.aload_n 0, 1, [0], 0, 0), some (.invokevirtual 302, 3, [0, 194, 1, 0], 0, 0), none, none, some (.ifCond .ne 5, 3, [18], 0, 0), none, none, some (.iconst 0, 1, [], 0, 0), some (.ireturn, 1, [], 0, 0), some (.aload_n 0, 1, [0], 0, 0), some (.getfield 275, 3, [12, 39, 0], 0, 0), none, none, some (.istore_n 2, 1, [2], 0, 0), some (.aload_n 0, 1, [0], 0, 0), some (.invokevirtual 278, 3, [0, 190, 1, 1], 0, 0), none, none, some (.lstore_n 3, 1, [3], 0, 0), some (.lload_n 3, 1, [3], 0, 0), some (.ldc2_w 199, 3, [], 0, (-1)), none, none],
  [some (.lcmp, 1, [], 0, 0), some (.ifCond .ne 9, 3, [42], 0, 0), none, none, some (.aload_n 0, 1, [0], 0, 0), some (.iconst 2, 1, [], 2, 0), some (.invokevirtual 260, 3, [0, 186, 2, 0], 0, 0), none, none, some (.ireturn, 1, [], 0, 0), some (.aload_n 0, 1, [0], 0, 0), some (.lload_n 3, 1, [3], 0, 0), some (.invokevirtual 282, 3, [0, 191, 2, 0], 0, 0), none, none, some (.istore 5, 2, [5], 0, 0), none, some (.iload 5, 2, [5], 0, 0), none, some (.iconst (-1), 1, [], (-1), 0), some (.if_icmp .ne 9, 3, [61], 0, 0), none, none, some (.aload_n 0, 1, [0], 0, 0), some (.iconst 3, 1, [], 3, 0), some (.invokevirtual 260, 3, [0, 186, 2, 0], 0, 0), none, none, some (.ireturn, 1, [], 0, 0), some (.aload_n 0, 1, [0], 0, 0), some (.invokevirtual 263, 3, [0, 183, 1, 3], 0, 0), none],
  [none, some (.aload_n 0, 1, [0], 0, 0), some (.getfield 223, 3, [12, 10, 0], 0, 0), none, none, some (.iconst 3, 1, [], 3, 0), some (.if_icmp .ne 39, 3, [109], 0, 0), none, none, some (.aload_n 0, 1, [0], 0, 0), some (.getfield 220, 3, [12, 13, 0], 0, 0), none, none, some (.aload_n 0, 1, [0], 0, 0), some (.getfield 47, 3, [12, 20, 2, 1, 6, 9], 0, 0), none, none, some (.iload 5, 2, [5], 0, 0), none, some (.iaload, 1, [], 0, 0), some (.if_icmp .ge 25, 3, [109], 0, 0), none, none, some (.aload_n 0, 1, [0], 0, 0), some (.getfield 44, 3, [12, 19, 2, 1, 6, 8], 0, 0), none, none, some (.iload 5, 2, [5], 0, 0), none, some (.iaload, 1, [], 0, 0), some (.aload_n 0, 1, [0], 0, 0), some (.getfield 220, 3, [12, 13, 0], 0, 0)],
  [none, none, some (.iadd, 1, [], 0, 0), some (.iload_n 2, 1, [2], 0, 0), some (.if_icmp .ne 9, 3, [109], 0, 0), none, none, some (.aload_n 0, 1, [0], 0, 0), some (.iconst 4, 1, [], 4, 0), some (.invokevirtual 260, 3, [0, 186, 2, 0], 0, 0), none, none, some (.ireturn, 1, [], 0, 0), some (.aload_n 0, 1, [0], 0, 0), some (.iconst 0, 1, [], 0, 0), some (.aload_n 0, 1, [0], 0, 0), some (.getfield 47, 3, [12, 20, 2, 1, 6, 9], 0, 0), none, none, some (.iload 5, 2, [5], 0, 0), none, some (.iaload, 1, [], 0, 0), some (.iconst 1, 1, [], 1, 0), some (.isub, 1, [], 0, 0), some (.invokevirtual 286, 3, [0, 193, 3, 0], 0, 0), none, none, some (.ifCond .ne 5, 3, [128], 0, 0), none, none, some (.iconst 0, 1, [], 0, 0), some (.ireturn, 1, [], 0, 0)],
  [some (.aload_n 0, 1, [0], 0, 0), some (.getfield 44, 3, [12, 19, 2, 1, 6, 8], 0, 0), none, none, some (.iload 5, 2, [5], 0, 0), none, some (.iaload, 1, [], 0, 0), some (.aload_n 0, 1, [0], 0, 0), some (.getfield 275, 3, [12, 39, 0], 0, 0), none, none, some (.iadd, 1, [], 0, 0), some (.istore 6, 2, [6], 0, 0), none, some (.aload_n 0, 1, [0], 0, 0), some (.invokevirtual 298, 3, [0, 189, 1, 0], 0, 0), none, none, some (.ifCond .ne 5, 3, [151], 0, 0), none, none, some (.iconst 0, 1, [], 0, 0), some (.ireturn, 1, [], 0, 0), some (.aload_n 0, 1, [0], 0, 0), some (.getfield 62, 3, [12, 25, 2, 4, 36, 14], 0, 0), none, none, some (.bipush 6, 2, [], 6, 0), none, some (.iload_n 2, 1, [2], 0, 0), some (.imul, 1, [], 0, 0), some (.iload 6, 2, [6], 0, 0)],
  [none, some (.iadd, 1, [], 0, 0), some (.baload, 1, [], 0, 0), some (.ifCond .eq 11, 3, [174], 0, 0), none, none, some (.aload_n 0, 1, [0], 0, 0), some (.bipush 6, 2, [], 6, 0), none, some (.iload_n 1, 1, [1], 0, 0), some (.invokevirtual 250, 3, [0, 187, 3, 0], 0, 0), none, none, some (.ireturn, 1, [], 0, 0), some (.aload_n 0, 1, [0], 0, 0), some (.getfield 62, 3, [12, 25, 2, 4, 36, 14], 0, 0), none, none, some (.bipush 6, 2, [], 6, 0), none, some (.iload_n 2, 1, [2], 0, 0), some (.imul, 1, [], 0, 0), some (.iload 6, 2, [6], 0, 0), none, some (.iadd, 1, [], 0, 0), some (.iconst 1, 1, [], 1, 0), some (.bastore, 1, [], 0, 0), some (.aload_n 0, 1, [0], 0, 0), some (.getfield 62, 3, [12, 25, 2, 4, 36, 14], 0, 0), none, none, some (.bipush 6, 2, [], 6, 0)],
  [none, some (.iload 6, 2, [6], 0, 0), none, some (.imul, 1, [], 0, 0), some (.iload_n 2, 1, [2], 0, 0), some (.iadd, 1, [], 0, 0), some (.iconst 1, 1, [], 1, 0), some (.bastore, 1, [], 0, 0), some (.iconst 1, 1, [], 1, 0), some (.ireturn, 1, [], 0, 0)]]
def F_M_near_109 (N : Nat) (a1 : Int32) (a2 : Int32) (a5 : Int32) (h : MH) : Option (Int32 × MH) :=
  if inB a5 6 = true then
  ((f_M_number N 0 ((gI h 77 (iN a5)) - 1) h).bind (fun x11 =>
  if x11.1 = 0 then
  (some (0, x11.2))
  else
  (if inB a5 6 = true then
  (let v12 : Int32 := (gI x11.2 76 (iN a5)) + (gI x11.2 68 39)
  (f_M_wantEnd N x11.2).bind (fun x13 =>
  if x13.1 = 0 then
  (some (0, x13.2))
  else
  (if inB ((6 * a2) + v12) 36 = true then
  (if (gI x13.2 82 (iN ((6 * a2) + v12))) = 0 then
  (if inB ((6 * a2) + v12) 36 = true then
  (let h14 : MH := sI x13.2 82 (iN ((6 * a2) + v12)) ((1 : Int32) &&& 1)
  if inB ((6 * v12) + a2) 36 = true then
  (let h15 : MH := sI h14 82 (iN ((6 * v12) + a2)) ((1 : Int32) &&& 1)
  some (1, h15))
  else none)
  else none)
  else
  ((f_M_failsAt N 6 a1 x13.2).bind (fun x16 =>
  match narOK 1 x16.1 with
  | true => some (x16.1, x16.2)
  | false => none)))
  else none)))
  else none)))
  else none
def f_M_near (N : Nat) (h : MH) : Option (Int32 × MH) :=
  let v1 : Int32 := gI h 68 11
  (f_M_next N h).bind (fun x2 =>
  (f_M_cell N x2).bind (fun x3 =>
  if x3.1 = 0 then
  (some (0, x3.2))
  else
  (let v4 : Int32 := gI x3.2 68 39
  (f_M_nameHere N x3.2).bind (fun x5 =>
  if (lg_cmp x5.1 ((-1))) = 0 then
  ((f_M_fails N 2 x5.2).bind (fun x6 =>
  match narOK 1 x6.1 with
  | true => some (x6.1, x6.2)
  | false => none))
  else
  ((f_M_sheetOf N x5.1 x5.2).bind (fun x7 =>
  if x7.1 = ((-1)) then
  ((f_M_fails N 3 x7.2).bind (fun x8 =>
  match narOK 1 x8.1 with
  | true => some (x8.1, x8.2)
  | false => none))
  else
  ((f_M_next N x7.2).bind (fun x9 =>
  if (gI x9 68 10) = 3 then
  (if inB x7.1 6 = true then
  (if (gI x9 77 (iN x7.1)) ≤ (gI x9 68 13) then
  (F_M_near_109 N v1 v4 x7.1 x9)
  else
  (if inB x7.1 6 = true then
  (if ((gI x9 76 (iN x7.1)) + (gI x9 68 13)) = v4 then
  ((f_M_fails N 4 x9).bind (fun x10 =>
  match narOK 1 x10.1 with
  | true => some (x10.1, x10.2)
  | false => none))
  else
  (F_M_near_109 N v1 v4 x7.1 x9))
  else none))
  else none)
  else
  (F_M_near_109 N v1 v4 x7.1 x9)))))))))
def C_M_near (N : Nat) : MC := (KDL, false, (fun _ => 0), jsB, (fun j => match Nat.beq j 186 with
    | true => w_M_fails (f_M_fails N)
    | false => match Nat.beq j 187 with
    | true => w_M_failsAt (f_M_failsAt N)
    | false => match Nat.beq j 189 with
    | true => w_M_wantEnd (f_M_wantEnd N)
    | false => match Nat.beq j 191 with
    | true => w_M_sheetOf (f_M_sheetOf N)
    | false => match Nat.beq j 193 with
    | true => w_M_number (f_M_number N)
    | false => match Nat.beq j 194 with
    | true => w_M_cell (f_M_cell N)
    | false => fun _ _ => none), (fun j => match Nat.beq j 190 with
    | true => w_M_nameHere (f_M_nameHere N)
    | false => fun _ _ => none), (fun _ _ _ => none), (fun j => match Nat.beq j 183 with
    | true => w_M_next (f_M_next N)
    | false => fun _ _ => none))
def D_M_near (N : Nat) (n pc : Nat) (lv : ML) (st : List MV) (h : MH) : Option (Int32 × MH) :=
  match Nat.beq pc 0 with
  | true => (match lk lv 0, st with
    | some (.inr (.inr (0, 12, 68))), [] => f_M_near N h
    | _, _ => none)
  | false => match Nat.beq pc 109 with
  | true => (match lk lv 0, lk lv 1, lk lv 2, lk lv 5, st with
    | some (.inr (.inr (0, 12, 68))), some (.inl a1), some (.inl a2), some (.inl a5), [] => F_M_near_109 N a1 a2 a5 h
    | _, _, _, _, _ => none)
  | false => none
set_option maxRecDepth 1000000 in
theorem E_M_near_0 (N : Nat) (n : Nat) (h : MH) : seg (C_M_near N) 7 1 rI T_M_near [0, 109] (fun q lv st h => match Nat.ble 1 q with
    | true => D_M_near N n q lv st h
    | false => none) 400 true 0 [(0, .inr (.inr (0, 12, 68)))] [] h = f_M_near N h := (rfl)
set_option maxRecDepth 1000000 in
theorem E_M_near_109 (N : Nat) (n : Nat) (a1 : Int32) (a2 : Int32) (a5 : Int32) (h : MH) : seg (C_M_near N) 7 1 rI T_M_near [0, 109] (fun q lv st h => match Nat.ble 110 q with
    | true => D_M_near N n q lv st h
    | false => none) 400 true 109 [(0, .inr (.inr (0, 12, 68))), (1, .inl a1), (2, .inl a2), (5, .inl a5)] [] h = F_M_near_109 N a1 a2 a5 h := (rfl)
def T_M_stuck : List (List (Option RW)) := [
  [some (.aload_n 0, 1, [0], 0, 0), some (.getfield 217, 3, [12, 11, 0], 0, 0), none, none, some (.istore_n 1, 1, [1], 0, 0), some (.aload_n 0, 1, [0], 0, 0), some (.invokevirtual 263, 3, [0, 183, 1, 3], 0, 0), none, none, some (.aload_n 0, 1, [0], 0, 0), some (.invokevirtual 302, 3, [0, 194, 1, 0], 0, 0), none, none, some (.ifCond .ne 5, 3, [18], 0, 0), none, none, some (.iconst 0, 1, [], 0, 0), some (.ireturn, 1, [], 0, 0), some (.aload_n 0, 1, [0], 0, 0), some (.getfield 275, 3, [12, 39, 0], 0, 0), none, none, some (.istore_n 2, 1, [2], 0, 0), some (.aload_n 0, 1, [0], 0, 0), some (.bipush 7, 2, [], 7, 0), none, some (.invokevirtual 292, 3, [0, 188, 2, 0], 0, 0), none, none, some (.ifCond .eq 13, 3, [42], 0, 0), none, none],
  [some (.aload_n 0, 1, [0], 0, 0), some (.iconst 0, 1, [], 0, 0), some (.bipush 100, 2, [], 100, 0), none, some (.invokevirtual 286, 3, [0, 193, 3, 0], 0, 0), none, none, some (.ifCond .ne 5, 3, [44], 0, 0), none, none, some (.iconst 0, 1, [], 0, 0), some (.ireturn, 1, [], 0, 0), some (.aload_n 0, 1, [0], 0, 0), some (.getfield 275, 3, [12, 39, 0], 0, 0), none, none, some (.istore_n 3, 1, [3], 0, 0), some (.aload_n 0, 1, [0], 0, 0), some (.bipush 8, 2, [], 8, 0), none, some (.invokevirtual 292, 3, [0, 188, 2, 0], 0, 0), none, none, some (.ifCond .eq 13, 3, [68], 0, 0), none, none, some (.aload_n 0, 1, [0], 0, 0), some (.iload_n 3, 1, [3], 0, 0), some (.bipush 100, 2, [], 100, 0), none, some (.invokevirtual 286, 3, [0, 193, 3, 0], 0, 0), none],
  [none, some (.ifCond .ne 5, 3, [70], 0, 0), none, none, some (.iconst 0, 1, [], 0, 0), some (.ireturn, 1, [], 0, 0), some (.aload_n 0, 1, [0], 0, 0), some (.getfield 275, 3, [12, 39, 0], 0, 0), none, none, some (.istore 4, 2, [4], 0, 0), none, some (.aload_n 0, 1, [0], 0, 0), some (.invokevirtual 298, 3, [0, 189, 1, 0], 0, 0), none, none, some (.ifCond .ne 5, 3, [85], 0, 0), none, none, some (.iconst 0, 1, [], 0, 0), some (.ireturn, 1, [], 0, 0), some (.aload_n 0, 1, [0], 0, 0), some (.getfield 66, 3, [12, 26, 2, 4, 6, 15], 0, 0), none, none, some (.iload_n 2, 1, [2], 0, 0), some (.baload, 1, [], 0, 0), some (.ifCond .eq 11, 3, [102], 0, 0), none, none, some (.aload_n 0, 1, [0], 0, 0), some (.bipush 6, 2, [], 6, 0)],
  [none, some (.iload_n 1, 1, [1], 0, 0), some (.invokevirtual 250, 3, [0, 187, 3, 0], 0, 0), none, none, some (.ireturn, 1, [], 0, 0), some (.aload_n 0, 1, [0], 0, 0), some (.getfield 66, 3, [12, 26, 2, 4, 6, 15], 0, 0), none, none, some (.iload_n 2, 1, [2], 0, 0), some (.iconst 1, 1, [], 1, 0), some (.bastore, 1, [], 0, 0), some (.aload_n 0, 1, [0], 0, 0), some (.getfield 53, 3, [12, 22, 2, 1, 6, 11], 0, 0), none, none, some (.iload_n 2, 1, [2], 0, 0), some (.iload_n 3, 1, [3], 0, 0), some (.iastore, 1, [], 0, 0), some (.aload_n 0, 1, [0], 0, 0), some (.getfield 56, 3, [12, 23, 2, 1, 6, 12], 0, 0), none, none, some (.iload_n 2, 1, [2], 0, 0), some (.iload 4, 2, [4], 0, 0), none, some (.iastore, 1, [], 0, 0), some (.iconst 1, 1, [], 1, 0), some (.ireturn, 1, [], 0, 0)]]
def f_M_stuck (N : Nat) (h : MH) : Option (Int32 × MH) :=
  let v1 : Int32 := gI h 68 11
  (f_M_next N h).bind (fun x2 =>
  (f_M_cell N x2).bind (fun x3 =>
  if x3.1 = 0 then
  (some (0, x3.2))
  else
  (let v4 : Int32 := gI x3.2 68 39
  (f_M_wantKey N 7 x3.2).bind (fun x5 =>
  if x5.1 = 0 then
  (some (0, x5.2))
  else
  ((f_M_number N 0 100 x5.2).bind (fun x6 =>
  if x6.1 = 0 then
  (some (0, x6.2))
  else
  (let v7 : Int32 := gI x6.2 68 39
  (f_M_wantKey N 8 x6.2).bind (fun x8 =>
  if x8.1 = 0 then
  (some (0, x8.2))
  else
  ((f_M_number N v7 100 x8.2).bind (fun x9 =>
  if x9.1 = 0 then
  (some (0, x9.2))
  else
  (let v10 : Int32 := gI x9.2 68 39
  (f_M_wantEnd N x9.2).bind (fun x11 =>
  if x11.1 = 0 then
  (some (0, x11.2))
  else
  (if inB v4 6 = true then
  (if (gI x11.2 83 (iN v4)) = 0 then
  (if inB v4 6 = true then
  (let h12 : MH := sI x11.2 83 (iN v4) ((1 : Int32) &&& 1)
  if inB v4 6 = true then
  (let h13 : MH := sI h12 79 (iN v4) v7
  if inB v4 6 = true then
  (let h14 : MH := sI h13 80 (iN v4) v10
  some (1, h14))
  else none)
  else none)
  else none)
  else
  ((f_M_failsAt N 6 v1 x11.2).bind (fun x15 =>
  match narOK 1 x15.1 with
  | true => some (x15.1, x15.2)
  | false => none)))
  else none)))))))))))))
def C_M_stuck (N : Nat) : MC := (KDL, false, (fun _ => 0), jsB, (fun j => match Nat.beq j 187 with
    | true => w_M_failsAt (f_M_failsAt N)
    | false => match Nat.beq j 188 with
    | true => w_M_wantKey (f_M_wantKey N)
    | false => match Nat.beq j 189 with
    | true => w_M_wantEnd (f_M_wantEnd N)
    | false => match Nat.beq j 193 with
    | true => w_M_number (f_M_number N)
    | false => match Nat.beq j 194 with
    | true => w_M_cell (f_M_cell N)
    | false => fun _ _ => none), (fun _ _ _ => none), (fun _ _ _ => none), (fun j => match Nat.beq j 183 with
    | true => w_M_next (f_M_next N)
    | false => fun _ _ => none))
def D_M_stuck (N : Nat) (n pc : Nat) (lv : ML) (st : List MV) (h : MH) : Option (Int32 × MH) :=
  match Nat.beq pc 0 with
  | true => (match lk lv 0, st with
    | some (.inr (.inr (0, 12, 68))), [] => f_M_stuck N h
    | _, _ => none)
  | false => none
set_option maxRecDepth 1000000 in
theorem E_M_stuck_0 (N : Nat) (n : Nat) (h : MH) : seg (C_M_stuck N) 5 1 rI T_M_stuck [0] (fun q lv st h => match Nat.ble 1 q with
    | true => D_M_stuck N n q lv st h
    | false => none) 400 true 0 [(0, .inr (.inr (0, 12, 68)))] [] h = f_M_stuck N h := (rfl)
def T_M_begin : List (List (Option RW)) := [
  [some (.aload_n 0, 1, [0], 0, 0), some (.getfield 87, 3, [12, 40, 2, 2, 8, 22], 0, 0), none, none, some (.iload_n 1, 1, [1], 0, 0), some (.lconst 0, 1, [], 0, 0), some (.lastore, 1, [], 0, 0), some (.aload_n 0, 1, [0], 0, 0), some (.getfield 93, 3, [12, 42, 2, 4, 8, 24], 0, 0), none, none, some (.iload_n 1, 1, [1], 0, 0), some (.iconst 0, 1, [], 0, 0), some (.bastore, 1, [], 0, 0), some (.aload_n 0, 1, [0], 0, 0), some (.getfield 96, 3, [12, 43, 2, 4, 8, 25], 0, 0), none, none, some (.iload_n 1, 1, [1], 0, 0), some (.iconst 0, 1, [], 0, 0), some (.bastore, 1, [], 0, 0), some (.return_, 1, [], 0, 0)]]
def f_M_begin (N : Nat) (a1 : Int32) (h : MH) : Option (MH) :=
  if inB a1 8 = true then
  (let h1 : MH := sJ h 90 (iN a1) 0
  if inB a1 8 = true then
  (let h2 : MH := sI h1 92 (iN a1) ((0 : Int32) &&& 1)
  if inB a1 8 = true then
  (let h3 : MH := sI h2 93 (iN a1) ((0 : Int32) &&& 1)
  some h3)
  else none)
  else none)
  else none
def C_M_begin (N : Nat) : MC := (KDL, false, (fun _ => 0), jsB, (fun _ _ _ => none), (fun _ _ _ => none), (fun _ _ _ => none), (fun _ _ _ => none))
def D_M_begin (N : Nat) (n pc : Nat) (lv : ML) (st : List MV) (h : MH) : Option (MH) :=
  match Nat.beq pc 0 with
  | true => (match lk lv 0, lk lv 1, st with
    | some (.inr (.inr (0, 12, 68))), some (.inl a1), [] => f_M_begin N a1 h
    | _, _, _ => none)
  | false => none
set_option maxRecDepth 1000000 in
theorem E_M_begin_0 (N : Nat) (n : Nat) (a1 : Int32) (h : MH) : seg (C_M_begin N) 2 0 rV T_M_begin [0] (fun q lv st h => match Nat.ble 1 q with
    | true => D_M_begin N n q lv st h
    | false => none) 400 true 0 [(0, .inr (.inr (0, 12, 68))), (1, .inl a1)] [] h = f_M_begin N a1 h := (rfl)
def T_M_sum : List (List (Option RW)) := [
  [some (.aload_n 0, 1, [0], 0, 0), some (.iconst 0, 1, [], 0, 0), some (.putfield 315, 3, [12, 45, 0], 0, 0), none, none, some (.aload_n 0, 1, [0], 0, 0), some (.iconst 0, 1, [], 0, 0), some (.putfield 318, 3, [12, 46, 0], 0, 0), none, none, some (.aload_n 0, 1, [0], 0, 0), some (.iconst 0, 1, [], 0, 0), some (.invokevirtual 321, 3, [0, 201, 2, 3], 0, 0), none, none, some (.aload_n 0, 1, [0], 0, 0), some (.getfield 254, 3, [12, 16, 0], 0, 0), none, none, some (.ifCond .ne 403, 3, [422], 0, 0), none, none, some (.aload_n 0, 1, [0], 0, 0), some (.bipush 45, 2, [], 45, 0), none, some (.invokevirtual 266, 3, [0, 184, 2, 0], 0, 0), none, none, some (.ifCond .ne 12, 3, [40], 0, 0), none, none, some (.aload_n 0, 1, [0], 0, 0)],
  [some (.bipush 40, 2, [], 40, 0), none, some (.invokevirtual 266, 3, [0, 184, 2, 0], 0, 0), none, none, some (.ifCond .eq 85, 3, [122], 0, 0), none, none, some (.aload_n 0, 1, [0], 0, 0), some (.getfield 315, 3, [12, 45, 0], 0, 0), none, none, some (.bipush 6, 2, [], 6, 0), none, some (.if_icmp .ne 9, 3, [55], 0, 0), none, none, some (.aload_n 0, 1, [0], 0, 0), some (.iconst 5, 1, [], 5, 0), some (.invokevirtual 260, 3, [0, 186, 2, 0], 0, 0), none, none, some (.ireturn, 1, [], 0, 0), some (.aload_n 0, 1, [0], 0, 0), some (.getfield 99, 3, [12, 44, 2, 1, 8, 26], 0, 0), none, none, some (.aload_n 0, 1, [0], 0, 0), some (.getfield 315, 3, [12, 45, 0], 0, 0), none, none, some (.aload_n 0, 1, [0], 0, 0)],
  [some (.bipush 40, 2, [], 40, 0), none, some (.invokevirtual 266, 3, [0, 184, 2, 0], 0, 0), none, none, some (.ifCond .eq 7, 3, [76], 0, 0), none, none, some (.iconst 1, 1, [], 1, 0), some (.goto 4, 3, [77], 0, 0), none, none, some (.iconst 2, 1, [], 2, 0), some (.iastore, 1, [], 0, 0), some (.aload_n 0, 1, [0], 0, 0), some (.dup, 1, [], 0, 0), some (.getfield 315, 3, [12, 45, 0], 0, 0), none, none, some (.iconst 1, 1, [], 1, 0), some (.iadd, 1, [], 0, 0), some (.putfield 315, 3, [12, 45, 0], 0, 0), none, none, some (.aload_n 0, 1, [0], 0, 0), some (.bipush 40, 2, [], 40, 0), none, some (.invokevirtual 266, 3, [0, 184, 2, 0], 0, 0), none, none, some (.ifCond .eq 21, 3, [115], 0, 0), none],
  [none, some (.aload_n 0, 1, [0], 0, 0), some (.dup, 1, [], 0, 0), some (.getfield 318, 3, [12, 46, 0], 0, 0), none, none, some (.iconst 1, 1, [], 1, 0), some (.iadd, 1, [], 0, 0), some (.putfield 318, 3, [12, 46, 0], 0, 0), none, none, some (.aload_n 0, 1, [0], 0, 0), some (.aload_n 0, 1, [0], 0, 0), some (.getfield 318, 3, [12, 46, 0], 0, 0), none, none, some (.invokevirtual 321, 3, [0, 201, 2, 3], 0, 0), none, none, some (.aload_n 0, 1, [0], 0, 0), some (.invokevirtual 263, 3, [0, 183, 1, 3], 0, 0), none, none, some (.goto (-104), 3, [15], 0, 0), none, none, some (.aload_n 0, 1, [0], 0, 0), some (.getfield 223, 3, [12, 10, 0], 0, 0), none, none, some (.iconst 3, 1, [], 3, 0), some (.if_icmp .eq 9, 3, [136], 0, 0)],
  [none, none, some (.aload_n 0, 1, [0], 0, 0), some (.iconst 2, 1, [], 2, 0), some (.invokevirtual 260, 3, [0, 186, 2, 0], 0, 0), none, none, some (.ireturn, 1, [], 0, 0), some (.aload_n 0, 1, [0], 0, 0), some (.getfield 220, 3, [12, 13, 0], 0, 0), none, none, some (.i2l, 1, [], 0, 0), some (.lstore_n 1, 1, [1], 0, 0), some (.aload_n 0, 1, [0], 0, 0), some (.invokevirtual 263, 3, [0, 183, 1, 3], 0, 0), none, none, some (.iconst 1, 1, [], 1, 0), some (.istore_n 3, 1, [3], 0, 0), some (.iload_n 3, 1, [3], 0, 0), some (.ifCond .eq 266, 3, [415], 0, 0), none, none, some (.aload_n 0, 1, [0], 0, 0), some (.getfield 315, 3, [12, 45, 0], 0, 0), none, none, some (.ifCond .le 34, 3, [190], 0, 0), none, none, some (.aload_n 0, 1, [0], 0, 0)],
  [some (.getfield 99, 3, [12, 44, 2, 1, 8, 26], 0, 0), none, none, some (.aload_n 0, 1, [0], 0, 0), some (.getfield 315, 3, [12, 45, 0], 0, 0), none, none, some (.iconst 1, 1, [], 1, 0), some (.isub, 1, [], 0, 0), some (.iaload, 1, [], 0, 0), some (.iconst 2, 1, [], 2, 0), some (.if_icmp .ne 19, 3, [190], 0, 0), none, none, some (.lload_n 1, 1, [1], 0, 0), some (.lneg, 1, [], 0, 0), some (.lstore_n 1, 1, [1], 0, 0), some (.aload_n 0, 1, [0], 0, 0), some (.dup, 1, [], 0, 0), some (.getfield 315, 3, [12, 45, 0], 0, 0), none, none, some (.iconst 1, 1, [], 1, 0), some (.isub, 1, [], 0, 0), some (.putfield 315, 3, [12, 45, 0], 0, 0), none, none, some (.goto (-35), 3, [152], 0, 0), none, none, some (.aload_n 0, 1, [0], 0, 0), some (.getfield 90, 3, [12, 41, 2, 2, 8, 23], 0, 0)],
  [none, none, some (.aload_n 0, 1, [0], 0, 0), some (.getfield 318, 3, [12, 46, 0], 0, 0), none, none, some (.aload_n 0, 1, [0], 0, 0), some (.getfield 93, 3, [12, 42, 2, 4, 8, 24], 0, 0), none, none, some (.aload_n 0, 1, [0], 0, 0), some (.getfield 318, 3, [12, 46, 0], 0, 0), none, none, some (.baload, 1, [], 0, 0), some (.ifCond .eq 17, 3, [224], 0, 0), none, none, some (.aload_n 0, 1, [0], 0, 0), some (.getfield 90, 3, [12, 41, 2, 2, 8, 23], 0, 0), none, none, some (.aload_n 0, 1, [0], 0, 0), some (.getfield 318, 3, [12, 46, 0], 0, 0), none, none, some (.laload, 1, [], 0, 0), some (.lload_n 1, 1, [1], 0, 0), some (.lmul, 1, [], 0, 0), some (.goto 4, 3, [225], 0, 0), none, none],
  [some (.lload_n 1, 1, [1], 0, 0), some (.lastore, 1, [], 0, 0), some (.aload_n 0, 1, [0], 0, 0), some (.getfield 93, 3, [12, 42, 2, 4, 8, 24], 0, 0), none, none, some (.aload_n 0, 1, [0], 0, 0), some (.getfield 318, 3, [12, 46, 0], 0, 0), none, none, some (.iconst 1, 1, [], 1, 0), some (.bastore, 1, [], 0, 0), some (.aload_n 0, 1, [0], 0, 0), some (.bipush 42, 2, [], 42, 0), none, some (.invokevirtual 266, 3, [0, 184, 2, 0], 0, 0), none, none, some (.ifCond .eq 8, 3, [250], 0, 0), none, none, some (.iconst 0, 1, [], 0, 0), some (.istore_n 3, 1, [3], 0, 0), some (.goto (-99), 3, [148], 0, 0), none, none, some (.aload_n 0, 1, [0], 0, 0), some (.getfield 87, 3, [12, 40, 2, 2, 8, 22], 0, 0), none, none, some (.aload_n 0, 1, [0], 0, 0), some (.getfield 318, 3, [12, 46, 0], 0, 0)],
  [none, none, some (.dup2, 1, [], 0, 0), some (.laload, 1, [], 0, 0), some (.aload_n 0, 1, [0], 0, 0), some (.getfield 96, 3, [12, 43, 2, 4, 8, 25], 0, 0), none, none, some (.aload_n 0, 1, [0], 0, 0), some (.getfield 318, 3, [12, 46, 0], 0, 0), none, none, some (.baload, 1, [], 0, 0), some (.ifCond .eq 16, 3, [285], 0, 0), none, none, some (.aload_n 0, 1, [0], 0, 0), some (.getfield 90, 3, [12, 41, 2, 2, 8, 23], 0, 0), none, none, some (.aload_n 0, 1, [0], 0, 0), some (.getfield 318, 3, [12, 46, 0], 0, 0), none, none, some (.laload, 1, [], 0, 0), some (.lneg, 1, [], 0, 0), some (.goto 12, 3, [294], 0, 0), none, none, some (.aload_n 0, 1, [0], 0, 0), some (.getfield 90, 3, [12, 41, 2, 2, 8, 23], 0, 0), none],
  [none, some (.aload_n 0, 1, [0], 0, 0), some (.getfield 318, 3, [12, 46, 0], 0, 0), none, none, some (.laload, 1, [], 0, 0), some (.ladd, 1, [], 0, 0), some (.lastore, 1, [], 0, 0), some (.aload_n 0, 1, [0], 0, 0), some (.getfield 93, 3, [12, 42, 2, 4, 8, 24], 0, 0), none, none, some (.aload_n 0, 1, [0], 0, 0), some (.getfield 318, 3, [12, 46, 0], 0, 0), none, none, some (.iconst 0, 1, [], 0, 0), some (.bastore, 1, [], 0, 0), some (.aload_n 0, 1, [0], 0, 0), some (.bipush 43, 2, [], 43, 0), none, some (.invokevirtual 266, 3, [0, 184, 2, 0], 0, 0), none, none, some (.ifCond .ne 12, 3, [324], 0, 0), none, none, some (.aload_n 0, 1, [0], 0, 0), some (.bipush 45, 2, [], 45, 0), none, some (.invokevirtual 266, 3, [0, 184, 2, 0], 0, 0), none],
  [none, some (.ifCond .eq 23, 3, [344], 0, 0), none, none, some (.aload_n 0, 1, [0], 0, 0), some (.getfield 96, 3, [12, 43, 2, 4, 8, 25], 0, 0), none, none, some (.aload_n 0, 1, [0], 0, 0), some (.getfield 318, 3, [12, 46, 0], 0, 0), none, none, some (.aload_n 0, 1, [0], 0, 0), some (.bipush 45, 2, [], 45, 0), none, some (.invokevirtual 266, 3, [0, 184, 2, 0], 0, 0), none, none, some (.bastore, 1, [], 0, 0), some (.iconst 0, 1, [], 0, 0), some (.istore_n 3, 1, [3], 0, 0), some (.goto (-193), 3, [148], 0, 0), none, none, some (.aload_n 0, 1, [0], 0, 0), some (.getfield 318, 3, [12, 46, 0], 0, 0), none, none, some (.ifCond .ne 15, 3, [363], 0, 0), none, none, some (.aload_n 0, 1, [0], 0, 0)],
  [some (.aload_n 0, 1, [0], 0, 0), some (.getfield 87, 3, [12, 40, 2, 2, 8, 22], 0, 0), none, none, some (.iconst 0, 1, [], 0, 0), some (.laload, 1, [], 0, 0), some (.putfield 308, 3, [12, 47, 1], 0, 0), none, none, some (.iconst 1, 1, [], 1, 0), some (.ireturn, 1, [], 0, 0), some (.aload_n 0, 1, [0], 0, 0), some (.bipush 41, 2, [], 41, 0), none, some (.invokevirtual 266, 3, [0, 184, 2, 0], 0, 0), none, none, some (.ifCond .ne 9, 3, [378], 0, 0), none, none, some (.aload_n 0, 1, [0], 0, 0), some (.iconst 2, 1, [], 2, 0), some (.invokevirtual 260, 3, [0, 186, 2, 0], 0, 0), none, none, some (.ireturn, 1, [], 0, 0), some (.aload_n 0, 1, [0], 0, 0), some (.getfield 87, 3, [12, 40, 2, 2, 8, 22], 0, 0), none, none, some (.aload_n 0, 1, [0], 0, 0), some (.getfield 318, 3, [12, 46, 0], 0, 0)],
  [none, none, some (.laload, 1, [], 0, 0), some (.lstore_n 1, 1, [1], 0, 0), some (.aload_n 0, 1, [0], 0, 0), some (.dup, 1, [], 0, 0), some (.getfield 318, 3, [12, 46, 0], 0, 0), none, none, some (.iconst 1, 1, [], 1, 0), some (.isub, 1, [], 0, 0), some (.putfield 318, 3, [12, 46, 0], 0, 0), none, none, some (.aload_n 0, 1, [0], 0, 0), some (.dup, 1, [], 0, 0), some (.getfield 315, 3, [12, 45, 0], 0, 0), none, none, some (.iconst 1, 1, [], 1, 0), some (.isub, 1, [], 0, 0), some (.putfield 315, 3, [12, 45, 0], 0, 0), none, none, some (.aload_n 0, 1, [0], 0, 0), some (.invokevirtual 263, 3, [0, 183, 1, 3], 0, 0), none, none, some (.goto (-264), 3, [148], 0, 0), none, none, some (.aload_n 0, 1, [0], 0, 0)],
  [some (.invokevirtual 263, 3, [0, 183, 1, 3], 0, 0), none, none, some (.goto (-404), 3, [15], 0, 0), none, none, some (.iconst 0, 1, [], 0, 0), some (.ireturn, 1, [], 0, 0)]]
def F_M_sum_324 (N : Nat) (bk : (MH → Option (Int32 × MH)) × (Int64 → Int32 → MH → Option (Int32 × MH)) × (Int64 → Int32 → MH → Option (Int32 × MH))) (a1 : Int64) (h : MH) : Option (Int32 × MH) :=
  (f_M_isSign N 45 h).bind (fun x35 =>
  if inB (gI h 68 46) 8 = true then
  (let h36 : MH := sI x35.2 93 (iN (gI h 68 46)) (x35.1 &&& 1)
  (bk.2.1) a1 0 h36)
  else none)
def F_M_sum_294 (N : Nat) (bk : (MH → Option (Int32 × MH)) × (Int64 → Int32 → MH → Option (Int32 × MH)) × (Int64 → Int32 → MH → Option (Int32 × MH))) (a1 : Int64) (a3 : Int32) (as0 : Int64) (as1 : Int64) (as2 : Int32) (h : MH) : Option (Int32 × MH) :=
  if inB as2 8 = true then
  (let h24 : MH := sJ h 90 (iN as2) (as1 + as0)
  if inB (gI h24 68 46) 8 = true then
  (let h25 : MH := sI h24 92 (iN (gI h24 68 46)) ((0 : Int32) &&& 1)
  (f_M_isSign N 43 h25).bind (fun x26 =>
  if x26.1 = 0 then
  ((f_M_isSign N 45 x26.2).bind (fun x27 =>
  if x27.1 = 0 then
  (if (gI x27.2 68 46) = 0 then
  (if inB 0 8 = true then
  (let h28 : MH := sJ x27.2 68 47 (gJ x27.2 90 (iN 0))
  some (1, h28))
  else none)
  else
  ((f_M_isSign N 41 x27.2).bind (fun x29 =>
  if x29.1 = 0 then
  ((f_M_fails N 2 x29.2).bind (fun x30 =>
  match narOK 1 x30.1 with
  | true => some (x30.1, x30.2)
  | false => none))
  else
  (if inB (gI x29.2 68 46) 8 = true then
  (let v31 : Int64 := gJ x29.2 90 (iN (gI x29.2 68 46))
  let h32 : MH := sI x29.2 68 46 ((gI x29.2 68 46) - 1)
  let h33 : MH := sI h32 68 45 ((gI h32 68 45) - 1)
  (f_M_next N h33).bind (fun x34 =>
  (bk.2.1) v31 a3 x34))
  else none))))
  else
  (F_M_sum_324 N bk a1 x27.2)))
  else
  (F_M_sum_324 N bk a1 x26.2)))
  else none)
  else none
def F_M_sum_225 (N : Nat) (bk : (MH → Option (Int32 × MH)) × (Int64 → Int32 → MH → Option (Int32 × MH)) × (Int64 → Int32 → MH → Option (Int32 × MH))) (a1 : Int64) (a3 : Int32) (as0 : Int64) (as1 : Int32) (h : MH) : Option (Int32 × MH) :=
  if inB as1 8 = true then
  (let h21 : MH := sJ h 91 (iN as1) as0
  if inB (gI h21 68 46) 8 = true then
  (let h22 : MH := sI h21 92 (iN (gI h21 68 46)) ((1 : Int32) &&& 1)
  (f_M_isSign N 42 h22).bind (fun x23 =>
  if x23.1 = 0 then
  (if inB (gI x23.2 68 46) 8 = true then
  (if inB (gI x23.2 68 46) 8 = true then
  (if (gI x23.2 93 (iN (gI x23.2 68 46))) = 0 then
  (if inB (gI x23.2 68 46) 8 = true then
  (F_M_sum_294 N bk a1 a3 (gJ x23.2 91 (iN (gI x23.2 68 46))) (gJ x23.2 90 (iN (gI x23.2 68 46))) (gI x23.2 68 46) x23.2)
  else none)
  else
  (if inB (gI x23.2 68 46) 8 = true then
  (F_M_sum_294 N bk a1 a3 (-(gJ x23.2 91 (iN (gI x23.2 68 46)))) (gJ x23.2 90 (iN (gI x23.2 68 46))) (gI x23.2 68 46) x23.2)
  else none))
  else none)
  else none)
  else
  ((bk.2.1) a1 0 x23.2)))
  else none)
  else none
def F_M_sum_190 (N : Nat) (bk : (MH → Option (Int32 × MH)) × (Int64 → Int32 → MH → Option (Int32 × MH)) × (Int64 → Int32 → MH → Option (Int32 × MH))) (a1 : Int64) (a3 : Int32) (h : MH) : Option (Int32 × MH) :=
  if inB (gI h 68 46) 8 = true then
  (if (gI h 92 (iN (gI h 68 46))) = 0 then
  (F_M_sum_225 N bk a1 a3 a1 (gI h 68 46) h)
  else
  (if inB (gI h 68 46) 8 = true then
  (F_M_sum_225 N bk a1 a3 ((gJ h 91 (iN (gI h 68 46))) * a1) (gI h 68 46) h)
  else none))
  else none
def F_M_sum_152 (N : Nat) (bk : (MH → Option (Int32 × MH)) × (Int64 → Int32 → MH → Option (Int32 × MH)) × (Int64 → Int32 → MH → Option (Int32 × MH))) (a1 : Int64) (a3 : Int32) (h : MH) : Option (Int32 × MH) :=
  if (gI h 68 45) ≤ 0 then
  (F_M_sum_190 N bk a1 a3 h)
  else
  (if inB ((gI h 68 45) - 1) 8 = true then
  (if (gI h 94 (iN ((gI h 68 45) - 1))) = 2 then
  (let v19 : Int64 := -a1
  let h20 : MH := sI h 68 45 ((gI h 68 45) - 1)
  (bk.2.2) v19 a3 h20)
  else
  (F_M_sum_190 N bk a1 a3 h))
  else none)
def F_M_sum_148 (N : Nat) (bk : (MH → Option (Int32 × MH)) × (Int64 → Int32 → MH → Option (Int32 × MH)) × (Int64 → Int32 → MH → Option (Int32 × MH))) (a1 : Int64) (a3 : Int32) (h : MH) : Option (Int32 × MH) :=
  if a3 = 0 then
  ((f_M_next N h).bind (fun x18 =>
  (bk.1) x18))
  else
  (F_M_sum_152 N bk a1 a3 h)
def F_M_sum_77 (N : Nat) (bk : (MH → Option (Int32 × MH)) × (Int64 → Int32 → MH → Option (Int32 × MH)) × (Int64 → Int32 → MH → Option (Int32 × MH))) (as0 : Int32) (as1 : Int32) (h : MH) : Option (Int32 × MH) :=
  if inB as1 8 = true then
  (let h11 : MH := sI h 94 (iN as1) as0
  let h12 : MH := sI h11 68 45 ((gI h11 68 45) + 1)
  (f_M_isSign N 40 h12).bind (fun x13 =>
  if x13.1 = 0 then
  ((f_M_next N x13.2).bind (fun x14 =>
  (bk.1) x14))
  else
  (let h15 : MH := sI x13.2 68 46 ((gI x13.2 68 46) + 1)
  (f_M_begin N (gI h15 68 46) h15).bind (fun x16 =>
  (f_M_next N x16).bind (fun x17 =>
  (bk.1) x17)))))
  else none
def F_M_sum_40 (N : Nat) (bk : (MH → Option (Int32 × MH)) × (Int64 → Int32 → MH → Option (Int32 × MH)) × (Int64 → Int32 → MH → Option (Int32 × MH))) (h : MH) : Option (Int32 × MH) :=
  if (gI h 68 45) = 6 then
  ((f_M_fails N 5 h).bind (fun x9 =>
  match narOK 1 x9.1 with
  | true => some (x9.1, x9.2)
  | false => none))
  else
  ((f_M_isSign N 40 h).bind (fun x10 =>
  if x10.1 = 0 then
  (F_M_sum_77 N bk 2 (gI h 68 45) x10.2)
  else
  (F_M_sum_77 N bk 1 (gI h 68 45) x10.2)))
def F_M_sum_15 (N : Nat) (bk : (MH → Option (Int32 × MH)) × (Int64 → Int32 → MH → Option (Int32 × MH)) × (Int64 → Int32 → MH → Option (Int32 × MH))) (h : MH) : Option (Int32 × MH) :=
  if (gI h 68 16) = 0 then
  ((f_M_isSign N 45 h).bind (fun x4 =>
  if x4.1 = 0 then
  ((f_M_isSign N 40 x4.2).bind (fun x5 =>
  if x5.1 = 0 then
  (if (gI x5.2 68 10) = 3 then
  (let v6 : Int64 := ((gI x5.2 68 13)).toInt64
  (f_M_next N x5.2).bind (fun x7 =>
  F_M_sum_148 N bk v6 1 x7))
  else
  ((f_M_fails N 2 x5.2).bind (fun x8 =>
  match narOK 1 x8.1 with
  | true => some (x8.1, x8.2)
  | false => none)))
  else
  (F_M_sum_40 N bk x5.2)))
  else
  (F_M_sum_40 N bk x4.2)))
  else
  (some (0, h))
def F_M_sum_0 (N : Nat) (bk : (MH → Option (Int32 × MH)) × (Int64 → Int32 → MH → Option (Int32 × MH)) × (Int64 → Int32 → MH → Option (Int32 × MH))) (h : MH) : Option (Int32 × MH) :=
  let h1 : MH := sI h 68 45 0
  let h2 : MH := sI h1 68 46 0
  (f_M_begin N 0 h2).bind (fun x3 =>
  F_M_sum_15 N bk x3)
def L_M_sum (N : Nat) : Nat → ((MH → Option (Int32 × MH)) × (Int64 → Int32 → MH → Option (Int32 × MH)) × (Int64 → Int32 → MH → Option (Int32 × MH)))
  | 0 => (fun _ => none, fun _ _ _ => none, fun _ _ _ => none)
  | n + 1 => (F_M_sum_15 N (L_M_sum N n), F_M_sum_148 N (L_M_sum N n), F_M_sum_152 N (L_M_sum N n))
def f_M_sum (N : Nat) (h : MH) : Option (Int32 × MH) := F_M_sum_0 N (L_M_sum N N) h
def C_M_sum (N : Nat) : MC := (KDL, false, (fun _ => 0), jsB, (fun j => match Nat.beq j 184 with
    | true => w_M_isSign (f_M_isSign N)
    | false => match Nat.beq j 186 with
    | true => w_M_fails (f_M_fails N)
    | false => fun _ _ => none), (fun _ _ _ => none), (fun _ _ _ => none), (fun j => match Nat.beq j 183 with
    | true => w_M_next (f_M_next N)
    | false => match Nat.beq j 201 with
    | true => w_M_begin (f_M_begin N)
    | false => fun _ _ => none))
def D_M_sum (N : Nat) (n pc : Nat) (lv : ML) (st : List MV) (h : MH) : Option (Int32 × MH) :=
  match Nat.beq pc 0 with
  | true => (match lk lv 0, st with
    | some (.inr (.inr (0, 12, 68))), [] => F_M_sum_0 N (L_M_sum N n) h
    | _, _ => none)
  | false => match Nat.beq pc 15 with
  | true => (match lk lv 0, st with
    | some (.inr (.inr (0, 12, 68))), [] => F_M_sum_15 N (L_M_sum N n) h
    | _, _ => none)
  | false => match Nat.beq pc 40 with
  | true => (match lk lv 0, st with
    | some (.inr (.inr (0, 12, 68))), [] => F_M_sum_40 N (L_M_sum N n) h
    | _, _ => none)
  | false => match Nat.beq pc 77 with
  | true => (match lk lv 0, st with
    | some (.inr (.inr (0, 12, 68))), [.inl as0, .inl as1, .inr (.inr (1, 8, 94))] => F_M_sum_77 N (L_M_sum N n) as0 as1 h
    | _, _ => none)
  | false => match Nat.beq pc 148 with
  | true => (match lk lv 0, lk lv 1, lk lv 3, st with
    | some (.inr (.inr (0, 12, 68))), some (.inr (.inl a1)), some (.inl a3), [] => F_M_sum_148 N (L_M_sum N n) a1 a3 h
    | _, _, _, _ => none)
  | false => match Nat.beq pc 152 with
  | true => (match lk lv 0, lk lv 1, lk lv 3, st with
    | some (.inr (.inr (0, 12, 68))), some (.inr (.inl a1)), some (.inl a3), [] => F_M_sum_152 N (L_M_sum N n) a1 a3 h
    | _, _, _, _ => none)
  | false => match Nat.beq pc 190 with
  | true => (match lk lv 0, lk lv 1, lk lv 3, st with
    | some (.inr (.inr (0, 12, 68))), some (.inr (.inl a1)), some (.inl a3), [] => F_M_sum_190 N (L_M_sum N n) a1 a3 h
    | _, _, _, _ => none)
  | false => match Nat.beq pc 225 with
  | true => (match lk lv 0, lk lv 1, lk lv 3, st with
    | some (.inr (.inr (0, 12, 68))), some (.inr (.inl a1)), some (.inl a3), [.inr (.inl as0), .inl as1, .inr (.inr (2, 8, 91))] => F_M_sum_225 N (L_M_sum N n) a1 a3 as0 as1 h
    | _, _, _, _ => none)
  | false => match Nat.beq pc 294 with
  | true => (match lk lv 0, lk lv 1, lk lv 3, st with
    | some (.inr (.inr (0, 12, 68))), some (.inr (.inl a1)), some (.inl a3), [.inr (.inl as0), .inr (.inl as1), .inl as2, .inr (.inr (2, 8, 90))] => F_M_sum_294 N (L_M_sum N n) a1 a3 as0 as1 as2 h
    | _, _, _, _ => none)
  | false => match Nat.beq pc 324 with
  | true => (match lk lv 0, lk lv 1, st with
    | some (.inr (.inr (0, 12, 68))), some (.inr (.inl a1)), [] => F_M_sum_324 N (L_M_sum N n) a1 h
    | _, _, _ => none)
  | false => none
def B_M_sum (N : Nat) (n pc : Nat) (lv : ML) (st : List MV) (h : MH) : Option (Int32 × MH) :=
  match Nat.beq pc 15 with
  | true => (match lk lv 0, st with
    | some (.inr (.inr (0, 12, 68))), [] => ((L_M_sum N n).1) h
    | _, _ => none)
  | false => match Nat.beq pc 148 with
  | true => (match lk lv 0, lk lv 1, lk lv 3, st with
    | some (.inr (.inr (0, 12, 68))), some (.inr (.inl a1)), some (.inl a3), [] => ((L_M_sum N n).2.1) a1 a3 h
    | _, _, _, _ => none)
  | false => match Nat.beq pc 152 with
  | true => (match lk lv 0, lk lv 1, lk lv 3, st with
    | some (.inr (.inr (0, 12, 68))), some (.inr (.inl a1)), some (.inl a3), [] => ((L_M_sum N n).2.2) a1 a3 h
    | _, _, _, _ => none)
  | false => none
set_option maxRecDepth 1000000 in
theorem E_M_sum_0 (N : Nat) (n : Nat) (h : MH) : seg (C_M_sum N) 4 1 rI T_M_sum [0, 15, 40, 77, 148, 152, 190, 225, 294, 324] (fun q lv st h => match Nat.ble 1 q with
    | true => D_M_sum N n q lv st h
    | false => B_M_sum N n q lv st h) 400 true 0 [(0, .inr (.inr (0, 12, 68)))] [] h = F_M_sum_0 N (L_M_sum N n) h := (rfl)
set_option maxRecDepth 1000000 in
theorem E_M_sum_15 (N : Nat) (n : Nat) (h : MH) : seg (C_M_sum N) 4 1 rI T_M_sum [0, 15, 40, 77, 148, 152, 190, 225, 294, 324] (fun q lv st h => match Nat.ble 16 q with
    | true => D_M_sum N n q lv st h
    | false => B_M_sum N n q lv st h) 400 true 15 [(0, .inr (.inr (0, 12, 68)))] [] h = F_M_sum_15 N (L_M_sum N n) h := (rfl)
set_option maxRecDepth 1000000 in
theorem E_M_sum_40 (N : Nat) (n : Nat) (h : MH) : seg (C_M_sum N) 4 1 rI T_M_sum [0, 15, 40, 77, 148, 152, 190, 225, 294, 324] (fun q lv st h => match Nat.ble 41 q with
    | true => D_M_sum N n q lv st h
    | false => B_M_sum N n q lv st h) 400 true 40 [(0, .inr (.inr (0, 12, 68)))] [] h = F_M_sum_40 N (L_M_sum N n) h := (rfl)
set_option maxRecDepth 1000000 in
theorem E_M_sum_77 (N : Nat) (n : Nat) (as0 : Int32) (as1 : Int32) (h : MH) : seg (C_M_sum N) 4 1 rI T_M_sum [0, 15, 40, 77, 148, 152, 190, 225, 294, 324] (fun q lv st h => match Nat.ble 78 q with
    | true => D_M_sum N n q lv st h
    | false => B_M_sum N n q lv st h) 400 true 77 [(0, .inr (.inr (0, 12, 68)))] [.inl as0, .inl as1, .inr (.inr (1, 8, 94))] h = F_M_sum_77 N (L_M_sum N n) as0 as1 h := (rfl)
set_option maxRecDepth 1000000 in
theorem E_M_sum_148 (N : Nat) (n : Nat) (a1 : Int64) (a3 : Int32) (h : MH) : seg (C_M_sum N) 4 1 rI T_M_sum [0, 15, 40, 77, 148, 152, 190, 225, 294, 324] (fun q lv st h => match Nat.ble 149 q with
    | true => D_M_sum N n q lv st h
    | false => B_M_sum N n q lv st h) 400 true 148 [(0, .inr (.inr (0, 12, 68))), (1, .inr (.inl a1)), (3, .inl a3)] [] h = F_M_sum_148 N (L_M_sum N n) a1 a3 h := (rfl)
set_option maxRecDepth 1000000 in
theorem E_M_sum_152 (N : Nat) (n : Nat) (a1 : Int64) (a3 : Int32) (h : MH) : seg (C_M_sum N) 4 1 rI T_M_sum [0, 15, 40, 77, 148, 152, 190, 225, 294, 324] (fun q lv st h => match Nat.ble 153 q with
    | true => D_M_sum N n q lv st h
    | false => B_M_sum N n q lv st h) 400 true 152 [(0, .inr (.inr (0, 12, 68))), (1, .inr (.inl a1)), (3, .inl a3)] [] h = F_M_sum_152 N (L_M_sum N n) a1 a3 h := (rfl)
set_option maxRecDepth 1000000 in
theorem E_M_sum_190 (N : Nat) (n : Nat) (a1 : Int64) (a3 : Int32) (h : MH) : seg (C_M_sum N) 4 1 rI T_M_sum [0, 15, 40, 77, 148, 152, 190, 225, 294, 324] (fun q lv st h => match Nat.ble 191 q with
    | true => D_M_sum N n q lv st h
    | false => B_M_sum N n q lv st h) 400 true 190 [(0, .inr (.inr (0, 12, 68))), (1, .inr (.inl a1)), (3, .inl a3)] [] h = F_M_sum_190 N (L_M_sum N n) a1 a3 h := (rfl)
set_option maxRecDepth 1000000 in
theorem E_M_sum_225 (N : Nat) (n : Nat) (a1 : Int64) (a3 : Int32) (as0 : Int64) (as1 : Int32) (h : MH) : seg (C_M_sum N) 4 1 rI T_M_sum [0, 15, 40, 77, 148, 152, 190, 225, 294, 324] (fun q lv st h => match Nat.ble 226 q with
    | true => D_M_sum N n q lv st h
    | false => B_M_sum N n q lv st h) 400 true 225 [(0, .inr (.inr (0, 12, 68))), (1, .inr (.inl a1)), (3, .inl a3)] [.inr (.inl as0), .inl as1, .inr (.inr (2, 8, 91))] h = F_M_sum_225 N (L_M_sum N n) a1 a3 as0 as1 h := (rfl)
set_option maxRecDepth 1000000 in
theorem E_M_sum_294 (N : Nat) (n : Nat) (a1 : Int64) (a3 : Int32) (as0 : Int64) (as1 : Int64) (as2 : Int32) (h : MH) : seg (C_M_sum N) 4 1 rI T_M_sum [0, 15, 40, 77, 148, 152, 190, 225, 294, 324] (fun q lv st h => match Nat.ble 295 q with
    | true => D_M_sum N n q lv st h
    | false => B_M_sum N n q lv st h) 400 true 294 [(0, .inr (.inr (0, 12, 68))), (1, .inr (.inl a1)), (3, .inl a3)] [.inr (.inl as0), .inr (.inl as1), .inl as2, .inr (.inr (2, 8, 90))] h = F_M_sum_294 N (L_M_sum N n) a1 a3 as0 as1 as2 h := (rfl)
set_option maxRecDepth 1000000 in
theorem E_M_sum_324 (N : Nat) (n : Nat) (a1 : Int64) (h : MH) : seg (C_M_sum N) 4 1 rI T_M_sum [0, 15, 40, 77, 148, 152, 190, 225, 294, 324] (fun q lv st h => match Nat.ble 325 q with
    | true => D_M_sum N n q lv st h
    | false => B_M_sum N n q lv st h) 400 true 324 [(0, .inr (.inr (0, 12, 68))), (1, .inr (.inl a1))] [] h = F_M_sum_324 N (L_M_sum N n) a1 h := (rfl)
def T_M_moving : List (List (Option RW)) := [
  [some (.aload_n 0, 1, [0], 0, 0), some (.getfield 217, 3, [12, 11, 0], 0, 0), none, none, some (.istore_n 1, 1, [1], 0, 0), some (.aload_n 0, 1, [0], 0, 0), some (.invokevirtual 263, 3, [0, 183, 1, 3], 0, 0), none, none, some (.aload_n 0, 1, [0], 0, 0), some (.invokevirtual 302, 3, [0, 194, 1, 0], 0, 0), none, none, some (.ifCond .ne 5, 3, [18], 0, 0), none, none, some (.iconst 0, 1, [], 0, 0), some (.ireturn, 1, [], 0, 0), some (.aload_n 0, 1, [0], 0, 0), some (.getfield 275, 3, [12, 39, 0], 0, 0), none, none, some (.istore_n 2, 1, [2], 0, 0), some (.aload_n 0, 1, [0], 0, 0), some (.invokevirtual 278, 3, [0, 190, 1, 1], 0, 0), none, none, some (.lstore_n 3, 1, [3], 0, 0), some (.lload_n 3, 1, [3], 0, 0), some (.ldc2_w 199, 3, [], 0, (-1)), none, none],
  [some (.lcmp, 1, [], 0, 0), some (.ifCond .ne 9, 3, [42], 0, 0), none, none, some (.aload_n 0, 1, [0], 0, 0), some (.iconst 2, 1, [], 2, 0), some (.invokevirtual 260, 3, [0, 186, 2, 0], 0, 0), none, none, some (.ireturn, 1, [], 0, 0), some (.aload_n 0, 1, [0], 0, 0), some (.lload_n 3, 1, [3], 0, 0), some (.invokevirtual 289, 3, [0, 192, 2, 0], 0, 0), none, none, some (.istore 5, 2, [5], 0, 0), none, some (.iload 5, 2, [5], 0, 0), none, some (.iconst (-1), 1, [], (-1), 0), some (.if_icmp .ne 9, 3, [61], 0, 0), none, none, some (.aload_n 0, 1, [0], 0, 0), some (.iconst 3, 1, [], 3, 0), some (.invokevirtual 260, 3, [0, 186, 2, 0], 0, 0), none, none, some (.ireturn, 1, [], 0, 0), some (.aload_n 0, 1, [0], 0, 0), some (.invokevirtual 263, 3, [0, 183, 1, 3], 0, 0), none],
  [none, some (.aload_n 0, 1, [0], 0, 0), some (.getfield 217, 3, [12, 11, 0], 0, 0), none, none, some (.istore 6, 2, [6], 0, 0), none, some (.aload_n 0, 1, [0], 0, 0), some (.invokevirtual 305, 3, [0, 200, 1, 0], 0, 0), none, none, some (.ifCond .eq 10, 3, [85], 0, 0), none, none, some (.aload_n 0, 1, [0], 0, 0), some (.invokevirtual 298, 3, [0, 189, 1, 0], 0, 0), none, none, some (.ifCond .ne 5, 3, [87], 0, 0), none, none, some (.iconst 0, 1, [], 0, 0), some (.ireturn, 1, [], 0, 0), some (.aload_n 0, 1, [0], 0, 0), some (.getfield 69, 3, [12, 27, 2, 4, 48, 16], 0, 0), none, none, some (.bipush 8, 2, [], 8, 0), none, some (.iload_n 2, 1, [2], 0, 0), some (.imul, 1, [], 0, 0), some (.iload 5, 2, [5], 0, 0)],
  [none, some (.iadd, 1, [], 0, 0), some (.baload, 1, [], 0, 0), some (.ifCond .eq 11, 3, [110], 0, 0), none, none, some (.aload_n 0, 1, [0], 0, 0), some (.bipush 6, 2, [], 6, 0), none, some (.iload_n 1, 1, [1], 0, 0), some (.invokevirtual 250, 3, [0, 187, 3, 0], 0, 0), none, none, some (.ireturn, 1, [], 0, 0), some (.aload_n 0, 1, [0], 0, 0), some (.getfield 308, 3, [12, 47, 1], 0, 0), none, none, some (.ldc2_w 311, 3, [], 0, (-9)), none, none, some (.lcmp, 1, [], 0, 0), some (.ifCond .lt 14, 3, [132], 0, 0), none, none, some (.aload_n 0, 1, [0], 0, 0), some (.getfield 308, 3, [12, 47, 1], 0, 0), none, none, some (.ldc2_w 313, 3, [], 0, 9), none, none],
  [some (.lcmp, 1, [], 0, 0), some (.ifCond .le 11, 3, [140], 0, 0), none, none, some (.aload_n 0, 1, [0], 0, 0), some (.iconst 5, 1, [], 5, 0), some (.iload 6, 2, [6], 0, 0), none, some (.invokevirtual 250, 3, [0, 187, 3, 0], 0, 0), none, none, some (.ireturn, 1, [], 0, 0), some (.aload_n 0, 1, [0], 0, 0), some (.getfield 69, 3, [12, 27, 2, 4, 48, 16], 0, 0), none, none, some (.bipush 8, 2, [], 8, 0), none, some (.iload_n 2, 1, [2], 0, 0), some (.imul, 1, [], 0, 0), some (.iload 5, 2, [5], 0, 0), none, some (.iadd, 1, [], 0, 0), some (.iconst 1, 1, [], 1, 0), some (.bastore, 1, [], 0, 0), some (.aload_n 0, 1, [0], 0, 0), some (.getfield 59, 3, [12, 24, 2, 1, 48, 13], 0, 0), none, none, some (.bipush 8, 2, [], 8, 0), none, some (.iload_n 2, 1, [2], 0, 0)],
  [some (.imul, 1, [], 0, 0), some (.iload 5, 2, [5], 0, 0), none, some (.iadd, 1, [], 0, 0), some (.aload_n 0, 1, [0], 0, 0), some (.getfield 308, 3, [12, 47, 1], 0, 0), none, none, some (.l2i, 1, [], 0, 0), some (.iastore, 1, [], 0, 0), some (.iconst 1, 1, [], 1, 0), some (.ireturn, 1, [], 0, 0)]]
def f_M_moving (N : Nat) (h : MH) : Option (Int32 × MH) :=
  let v1 : Int32 := gI h 68 11
  (f_M_next N h).bind (fun x2 =>
  (f_M_cell N x2).bind (fun x3 =>
  if x3.1 = 0 then
  (some (0, x3.2))
  else
  (let v4 : Int32 := gI x3.2 68 39
  (f_M_nameHere N x3.2).bind (fun x5 =>
  if (lg_cmp x5.1 ((-1))) = 0 then
  ((f_M_fails N 2 x5.2).bind (fun x6 =>
  match narOK 1 x6.1 with
  | true => some (x6.1, x6.2)
  | false => none))
  else
  ((f_M_markOf N x5.1 x5.2).bind (fun x7 =>
  if x7.1 = ((-1)) then
  ((f_M_fails N 3 x7.2).bind (fun x8 =>
  match narOK 1 x8.1 with
  | true => some (x8.1, x8.2)
  | false => none))
  else
  ((f_M_next N x7.2).bind (fun x9 =>
  let v10 : Int32 := gI x9 68 11
  (f_M_sum N x9).bind (fun x11 =>
  if x11.1 = 0 then
  (some (0, x11.2))
  else
  ((f_M_wantEnd N x11.2).bind (fun x12 =>
  if x12.1 = 0 then
  (some (0, x12.2))
  else
  (if inB ((8 * v4) + x7.1) 48 = true then
  (if (gI x12.2 84 (iN ((8 * v4) + x7.1))) = 0 then
  (if (lg_cmp (gJ x12.2 68 47) ((-9))) < 0 then
  ((f_M_failsAt N 5 v10 x12.2).bind (fun x13 =>
  match narOK 1 x13.1 with
  | true => some (x13.1, x13.2)
  | false => none))
  else
  (if (lg_cmp (gJ x12.2 68 47) 9) ≤ 0 then
  (if inB ((8 * v4) + x7.1) 48 = true then
  (let h14 : MH := sI x12.2 84 (iN ((8 * v4) + x7.1)) ((1 : Int32) &&& 1)
  if inB ((8 * v4) + x7.1) 48 = true then
  (let h15 : MH := sI h14 81 (iN ((8 * v4) + x7.1)) (Int64.toInt32 (gJ h14 68 47))
  some (1, h15))
  else none)
  else none)
  else
  ((f_M_failsAt N 5 v10 x12.2).bind (fun x16 =>
  match narOK 1 x16.1 with
  | true => some (x16.1, x16.2)
  | false => none))))
  else
  ((f_M_failsAt N 6 v1 x12.2).bind (fun x17 =>
  match narOK 1 x17.1 with
  | true => some (x17.1, x17.2)
  | false => none)))
  else none))))))))))))
def C_M_moving (N : Nat) : MC := (KDL, false, (fun _ => 0), jsB, (fun j => match Nat.beq j 186 with
    | true => w_M_fails (f_M_fails N)
    | false => match Nat.beq j 187 with
    | true => w_M_failsAt (f_M_failsAt N)
    | false => match Nat.beq j 189 with
    | true => w_M_wantEnd (f_M_wantEnd N)
    | false => match Nat.beq j 192 with
    | true => w_M_markOf (f_M_markOf N)
    | false => match Nat.beq j 194 with
    | true => w_M_cell (f_M_cell N)
    | false => match Nat.beq j 200 with
    | true => w_M_sum (f_M_sum N)
    | false => fun _ _ => none), (fun j => match Nat.beq j 190 with
    | true => w_M_nameHere (f_M_nameHere N)
    | false => fun _ _ => none), (fun _ _ _ => none), (fun j => match Nat.beq j 183 with
    | true => w_M_next (f_M_next N)
    | false => fun _ _ => none))
def D_M_moving (N : Nat) (n pc : Nat) (lv : ML) (st : List MV) (h : MH) : Option (Int32 × MH) :=
  match Nat.beq pc 0 with
  | true => (match lk lv 0, st with
    | some (.inr (.inr (0, 12, 68))), [] => f_M_moving N h
    | _, _ => none)
  | false => none
set_option maxRecDepth 1000000 in
theorem E_M_moving_0 (N : Nat) (n : Nat) (h : MH) : seg (C_M_moving N) 7 1 rI T_M_moving [0] (fun q lv st h => match Nat.ble 1 q with
    | true => D_M_moving N n q lv st h
    | false => none) 400 true 0 [(0, .inr (.inr (0, 12, 68)))] [] h = f_M_moving N h := (rfl)
def T_M_part : List (List (Option RW)) := [
  [some (.aload_n 0, 1, [0], 0, 0), some (.invokevirtual 257, 3, [0, 185, 1, 0], 0, 0), none, none, some (.istore_n 1, 1, [1], 0, 0), some (.iload_n 1, 1, [1], 0, 0), some (.iconst (-1), 1, [], (-1), 0), some (.if_icmp .eq 8, 3, [15], 0, 0), none, none, some (.iload_n 1, 1, [1], 0, 0), some (.iconst 4, 1, [], 4, 0), some (.if_icmp .le 9, 3, [21], 0, 0), none, none, some (.aload_n 0, 1, [0], 0, 0), some (.iconst 2, 1, [], 2, 0), some (.invokevirtual 260, 3, [0, 186, 2, 0], 0, 0), none, none, some (.ireturn, 1, [], 0, 0), some (.iload_n 1, 1, [1], 0, 0), some (.ifCond .ne 10, 3, [32], 0, 0), none, none, some (.aload_n 0, 1, [0], 0, 0), some (.invokevirtual 324, 3, [0, 195, 1, 0], 0, 0), none, none, some (.goto 43, 3, [72], 0, 0), none, none],
  [some (.iload_n 1, 1, [1], 0, 0), some (.iconst 1, 1, [], 1, 0), some (.if_icmp .ne 10, 3, [44], 0, 0), none, none, some (.aload_n 0, 1, [0], 0, 0), some (.invokevirtual 327, 3, [0, 196, 1, 0], 0, 0), none, none, some (.goto 31, 3, [72], 0, 0), none, none, some (.iload_n 1, 1, [1], 0, 0), some (.iconst 2, 1, [], 2, 0), some (.if_icmp .ne 10, 3, [56], 0, 0), none, none, some (.aload_n 0, 1, [0], 0, 0), some (.invokevirtual 330, 3, [0, 197, 1, 0], 0, 0), none, none, some (.goto 19, 3, [72], 0, 0), none, none, some (.iload_n 1, 1, [1], 0, 0), some (.iconst 3, 1, [], 3, 0), some (.if_icmp .ne 10, 3, [68], 0, 0), none, none, some (.aload_n 0, 1, [0], 0, 0), some (.invokevirtual 333, 3, [0, 199, 1, 0], 0, 0), none],
  [none, some (.goto 7, 3, [72], 0, 0), none, none, some (.aload_n 0, 1, [0], 0, 0), some (.invokevirtual 336, 3, [0, 198, 1, 0], 0, 0), none, none, some (.istore_n 2, 1, [2], 0, 0), some (.iload_n 2, 1, [2], 0, 0), some (.ifCond .ne 5, 3, [79], 0, 0), none, none, some (.iconst 0, 1, [], 0, 0), some (.ireturn, 1, [], 0, 0), some (.aload_n 0, 1, [0], 0, 0), some (.invokevirtual 263, 3, [0, 183, 1, 3], 0, 0), none, none, some (.aload_n 0, 1, [0], 0, 0), some (.dup, 1, [], 0, 0), some (.getfield 339, 3, [12, 31, 0], 0, 0), none, none, some (.iconst 1, 1, [], 1, 0), some (.iadd, 1, [], 0, 0), some (.putfield 339, 3, [12, 31, 0], 0, 0), none, none, some (.iconst 1, 1, [], 1, 0), some (.ireturn, 1, [], 0, 0)]]
def F_M_part_72 (N : Nat) (as0 : Int32) (h : MH) : Option (Int32 × MH) :=
  if as0 = 0 then
  (some (0, h))
  else
  ((f_M_next N h).bind (fun x9 =>
  let h10 : MH := sI x9 68 31 ((gI x9 68 31) + 1)
  some (1, h10)))
def f_M_part (N : Nat) (h : MH) : Option (Int32 × MH) :=
  (f_M_key N h).bind (fun x1 =>
  if x1.1 = ((-1)) then
  ((f_M_fails N 2 x1.2).bind (fun x2 =>
  match narOK 1 x2.1 with
  | true => some (x2.1, x2.2)
  | false => none))
  else
  (if x1.1 ≤ 4 then
  (if x1.1 = 0 then
  ((f_M_sheet N x1.2).bind (fun x3 =>
  F_M_part_72 N x3.1 x3.2))
  else
  (if x1.1 = 1 then
  ((f_M_mark N x1.2).bind (fun x4 =>
  F_M_part_72 N x4.1 x4.2))
  else
  (if x1.1 = 2 then
  ((f_M_near N x1.2).bind (fun x5 =>
  F_M_part_72 N x5.1 x5.2))
  else
  (if x1.1 = 3 then
  ((f_M_moving N x1.2).bind (fun x6 =>
  F_M_part_72 N x6.1 x6.2))
  else
  ((f_M_stuck N x1.2).bind (fun x7 =>
  F_M_part_72 N x7.1 x7.2))))))
  else
  ((f_M_fails N 2 x1.2).bind (fun x8 =>
  match narOK 1 x8.1 with
  | true => some (x8.1, x8.2)
  | false => none))))
def C_M_part (N : Nat) : MC := (KDL, false, (fun _ => 0), jsB, (fun j => match Nat.beq j 185 with
    | true => w_M_key (f_M_key N)
    | false => match Nat.beq j 186 with
    | true => w_M_fails (f_M_fails N)
    | false => match Nat.beq j 195 with
    | true => w_M_sheet (f_M_sheet N)
    | false => match Nat.beq j 196 with
    | true => w_M_mark (f_M_mark N)
    | false => match Nat.beq j 197 with
    | true => w_M_near (f_M_near N)
    | false => match Nat.beq j 198 with
    | true => w_M_stuck (f_M_stuck N)
    | false => match Nat.beq j 199 with
    | true => w_M_moving (f_M_moving N)
    | false => fun _ _ => none), (fun _ _ _ => none), (fun _ _ _ => none), (fun j => match Nat.beq j 183 with
    | true => w_M_next (f_M_next N)
    | false => fun _ _ => none))
def D_M_part (N : Nat) (n pc : Nat) (lv : ML) (st : List MV) (h : MH) : Option (Int32 × MH) :=
  match Nat.beq pc 0 with
  | true => (match lk lv 0, st with
    | some (.inr (.inr (0, 12, 68))), [] => f_M_part N h
    | _, _ => none)
  | false => match Nat.beq pc 72 with
  | true => (match lk lv 0, st with
    | some (.inr (.inr (0, 12, 68))), [.inl as0] => F_M_part_72 N as0 h
    | _, _ => none)
  | false => none
set_option maxRecDepth 1000000 in
theorem E_M_part_0 (N : Nat) (n : Nat) (h : MH) : seg (C_M_part N) 3 1 rI T_M_part [0, 72] (fun q lv st h => match Nat.ble 1 q with
    | true => D_M_part N n q lv st h
    | false => none) 400 true 0 [(0, .inr (.inr (0, 12, 68)))] [] h = f_M_part N h := (rfl)
set_option maxRecDepth 1000000 in
theorem E_M_part_72 (N : Nat) (n : Nat) (as0 : Int32) (h : MH) : seg (C_M_part N) 3 1 rI T_M_part [0, 72] (fun q lv st h => match Nat.ble 73 q with
    | true => D_M_part N n q lv st h
    | false => none) 400 true 72 [(0, .inr (.inr (0, 12, 68)))] [.inl as0] h = F_M_part_72 N as0 h := (rfl)
def T_M_land : List (List (Option RW)) := [
  [some (.iload_n 1, 1, [1], 0, 0), some (.ifCond .lt 11, 3, [12], 0, 0), none, none, some (.iload_n 1, 1, [1], 0, 0), some (.aload_n 0, 1, [0], 0, 0), some (.getfield 201, 3, [12, 8, 0], 0, 0), none, none, some (.if_icmp .le 9, 3, [18], 0, 0), none, none, some (.aload_n 0, 1, [0], 0, 0), some (.iconst 1, 1, [], 1, 0), some (.invokevirtual 342, 3, [0, 168, 2, 0], 0, 0), none, none, some (.ireturn, 1, [], 0, 0), some (.aload_n 0, 1, [0], 0, 0), some (.iload_n 1, 1, [1], 0, 0), some (.putfield 208, 3, [12, 9, 0], 0, 0), none, none, some (.iconst 0, 1, [], 0, 0), some (.istore_n 2, 1, [2], 0, 0), some (.iload_n 2, 1, [2], 0, 0), some (.iload_n 1, 1, [1], 0, 0), some (.if_icmp .ge 21, 3, [48], 0, 0), none, none, some (.aload_n 0, 1, [0], 0, 0), some (.getfield 28, 3, [12, 7, 2, 3, 600, 5], 0, 0)],
  [none, none, some (.iload_n 2, 1, [2], 0, 0), some (.aload_n 0, 1, [0], 0, 0), some (.getfield 24, 3, [12, 6, 2, 3, 600, 4], 0, 0), none, none, some (.iload_n 2, 1, [2], 0, 0), some (.baload, 1, [], 0, 0), some (.bastore, 1, [], 0, 0), some (.iinc 2 1, 3, [2], 1, 0), none, none, some (.goto (-20), 3, [25], 0, 0), none, none, some (.aload_n 0, 1, [0], 0, 0), some (.iconst 0, 1, [], 0, 0), some (.putfield 201, 3, [12, 8, 0], 0, 0), none, none, some (.aload_n 0, 1, [0], 0, 0), some (.iconst 0, 1, [], 0, 0), some (.putfield 254, 3, [12, 16, 0], 0, 0), none, none, some (.aload_n 0, 1, [0], 0, 0), some (.iconst (-1), 1, [], (-1), 0), some (.putfield 35, 3, [12, 15, 0], 0, 0), none, none, some (.aload_n 0, 1, [0], 0, 0)],
  [some (.iconst 0, 1, [], 0, 0), some (.putfield 211, 3, [12, 12, 0], 0, 0), none, none, some (.aload_n 0, 1, [0], 0, 0), some (.iconst 0, 1, [], 0, 0), some (.putfield 269, 3, [12, 28, 0], 0, 0), none, none, some (.aload_n 0, 1, [0], 0, 0), some (.iconst 0, 1, [], 0, 0), some (.putfield 295, 3, [12, 29, 0], 0, 0), none, none, some (.aload_n 0, 1, [0], 0, 0), some (.iconst 0, 1, [], 0, 0), some (.putfield 272, 3, [12, 30, 0], 0, 0), none, none, some (.aload_n 0, 1, [0], 0, 0), some (.iconst 0, 1, [], 0, 0), some (.putfield 339, 3, [12, 31, 0], 0, 0), none, none, some (.iconst 0, 1, [], 0, 0), some (.istore_n 2, 1, [2], 0, 0), some (.iload_n 2, 1, [2], 0, 0), some (.bipush 36, 2, [], 36, 0), none, some (.if_icmp .ge 16, 3, [109], 0, 0), none, none],
  [some (.aload_n 0, 1, [0], 0, 0), some (.getfield 62, 3, [12, 25, 2, 4, 36, 14], 0, 0), none, none, some (.iload_n 2, 1, [2], 0, 0), some (.iconst 0, 1, [], 0, 0), some (.bastore, 1, [], 0, 0), some (.iinc 2 1, 3, [2], 1, 0), none, none, some (.goto (-16), 3, [90], 0, 0), none, none, some (.iconst 0, 1, [], 0, 0), some (.istore_n 2, 1, [2], 0, 0), some (.iload_n 2, 1, [2], 0, 0), some (.bipush 48, 2, [], 48, 0), none, some (.if_icmp .ge 23, 3, [137], 0, 0), none, none, some (.aload_n 0, 1, [0], 0, 0), some (.getfield 69, 3, [12, 27, 2, 4, 48, 16], 0, 0), none, none, some (.iload_n 2, 1, [2], 0, 0), some (.iconst 0, 1, [], 0, 0), some (.bastore, 1, [], 0, 0), some (.aload_n 0, 1, [0], 0, 0), some (.getfield 59, 3, [12, 24, 2, 1, 48, 13], 0, 0), none, none],
  [some (.iload_n 2, 1, [2], 0, 0), some (.iconst 0, 1, [], 0, 0), some (.iastore, 1, [], 0, 0), some (.iinc 2 1, 3, [2], 1, 0), none, none, some (.goto (-23), 3, [111], 0, 0), none, none, some (.aload_n 0, 1, [0], 0, 0), some (.invokevirtual 263, 3, [0, 183, 1, 3], 0, 0), none, none, some (.aload_n 0, 1, [0], 0, 0), some (.getfield 223, 3, [12, 10, 0], 0, 0), none, none, some (.ifCond .eq 7, 3, [152], 0, 0), none, none, some (.iconst 1, 1, [], 1, 0), some (.goto 4, 3, [153], 0, 0), none, none, some (.iconst 0, 1, [], 0, 0), some (.istore_n 2, 1, [2], 0, 0), some (.iload_n 2, 1, [2], 0, 0), some (.ifCond .eq 26, 3, [181], 0, 0), none, none, some (.aload_n 0, 1, [0], 0, 0), some (.invokevirtual 345, 3, [0, 202, 1, 0], 0, 0)],
  [none, none, some (.ifCond .eq 14, 3, [176], 0, 0), none, none, some (.aload_n 0, 1, [0], 0, 0), some (.getfield 223, 3, [12, 10, 0], 0, 0), none, none, some (.ifCond .eq 7, 3, [176], 0, 0), none, none, some (.iconst 1, 1, [], 1, 0), some (.goto 4, 3, [177], 0, 0), none, none, some (.iconst 0, 1, [], 0, 0), some (.istore_n 2, 1, [2], 0, 0), some (.goto (-24), 3, [154], 0, 0), none, none, some (.aload_n 0, 1, [0], 0, 0), some (.aload_n 0, 1, [0], 0, 0), some (.getfield 254, 3, [12, 16, 0], 0, 0), none, none, some (.putfield 31, 3, [12, 14, 0], 0, 0), none, none, some (.aload_n 0, 1, [0], 0, 0), some (.getfield 254, 3, [12, 16, 0], 0, 0), none],
  [none, some (.ifCond .le 10, 3, [203], 0, 0), none, none, some (.aload_n 0, 1, [0], 0, 0), some (.bipush 9, 2, [], 9, 0), none, some (.invokevirtual 342, 3, [0, 168, 2, 0], 0, 0), none, none, some (.ireturn, 1, [], 0, 0), some (.aload_n 0, 1, [0], 0, 0), some (.aload_n 0, 1, [0], 0, 0), some (.getfield 295, 3, [12, 29, 0], 0, 0), none, none, some (.putfield 348, 3, [12, 32, 0], 0, 0), none, none, some (.aload_n 0, 1, [0], 0, 0), some (.aload_n 0, 1, [0], 0, 0), some (.getfield 272, 3, [12, 30, 0], 0, 0), none, none, some (.putfield 351, 3, [12, 33, 0], 0, 0), none, none, some (.iconst 0, 1, [], 0, 0), some (.istore_n 3, 1, [3], 0, 0), some (.iload_n 3, 1, [3], 0, 0), some (.bipush 36, 2, [], 36, 0), none],
  [some (.if_icmp .ge 21, 3, [245], 0, 0), none, none, some (.aload_n 0, 1, [0], 0, 0), some (.getfield 84, 3, [12, 38, 2, 4, 36, 21], 0, 0), none, none, some (.iload_n 3, 1, [3], 0, 0), some (.aload_n 0, 1, [0], 0, 0), some (.getfield 62, 3, [12, 25, 2, 4, 36, 14], 0, 0), none, none, some (.iload_n 3, 1, [3], 0, 0), some (.baload, 1, [], 0, 0), some (.bastore, 1, [], 0, 0), some (.iinc 3 1, 3, [3], 1, 0), none, none, some (.goto (-21), 3, [221], 0, 0), none, none, some (.iconst 0, 1, [], 0, 0), some (.istore_n 3, 1, [3], 0, 0), some (.iload_n 3, 1, [3], 0, 0), some (.bipush 48, 2, [], 48, 0), none, some (.if_icmp .ge 21, 3, [271], 0, 0), none, none, some (.aload_n 0, 1, [0], 0, 0), some (.getfield 81, 3, [12, 37, 2, 1, 48, 20], 0, 0), none],
  [none, some (.iload_n 3, 1, [3], 0, 0), some (.aload_n 0, 1, [0], 0, 0), some (.getfield 59, 3, [12, 24, 2, 1, 48, 13], 0, 0), none, none, some (.iload_n 3, 1, [3], 0, 0), some (.iaload, 1, [], 0, 0), some (.iastore, 1, [], 0, 0), some (.iinc 3 1, 3, [3], 1, 0), none, none, some (.goto (-21), 3, [247], 0, 0), none, none, some (.iconst 0, 1, [], 0, 0), some (.istore_n 3, 1, [3], 0, 0), some (.iload_n 3, 1, [3], 0, 0), some (.bipush 6, 2, [], 6, 0), none, some (.if_icmp .ge 45, 3, [321], 0, 0), none, none, some (.aload_n 0, 1, [0], 0, 0), some (.getfield 72, 3, [12, 34, 2, 1, 6, 17], 0, 0), none, none, some (.iload_n 3, 1, [3], 0, 0), some (.aload_n 0, 1, [0], 0, 0), some (.getfield 50, 3, [12, 21, 2, 1, 6, 10], 0, 0), none, none],
  [some (.iload_n 3, 1, [3], 0, 0), some (.iaload, 1, [], 0, 0), some (.iastore, 1, [], 0, 0), some (.aload_n 0, 1, [0], 0, 0), some (.getfield 75, 3, [12, 35, 2, 1, 6, 18], 0, 0), none, none, some (.iload_n 3, 1, [3], 0, 0), some (.aload_n 0, 1, [0], 0, 0), some (.getfield 53, 3, [12, 22, 2, 1, 6, 11], 0, 0), none, none, some (.iload_n 3, 1, [3], 0, 0), some (.iaload, 1, [], 0, 0), some (.iastore, 1, [], 0, 0), some (.aload_n 0, 1, [0], 0, 0), some (.getfield 78, 3, [12, 36, 2, 1, 6, 19], 0, 0), none, none, some (.iload_n 3, 1, [3], 0, 0), some (.aload_n 0, 1, [0], 0, 0), some (.getfield 56, 3, [12, 23, 2, 1, 6, 12], 0, 0), none, none, some (.iload_n 3, 1, [3], 0, 0), some (.iaload, 1, [], 0, 0), some (.iastore, 1, [], 0, 0), some (.iinc 3 1, 3, [3], 1, 0), none, none, some (.goto (-45), 3, [273], 0, 0), none],
  [none, some (.aload_n 0, 1, [0], 0, 0), some (.iconst 0, 1, [], 0, 0), some (.putfield 354, 3, [12, 48, 0], 0, 0), none, none, some (.aload_n 0, 1, [0], 0, 0), some (.iconst 0, 1, [], 0, 0), some (.putfield 357, 3, [12, 49, 0], 0, 0), none, none, some (.aload_n 0, 1, [0], 0, 0), some (.iconst 0, 1, [], 0, 0), some (.putfield 360, 3, [12, 75, 0], 0, 0), none, none, some (.aload_n 0, 1, [0], 0, 0), some (.aload_n 0, 1, [0], 0, 0), some (.getfield 339, 3, [12, 31, 0], 0, 0), none, none, some (.invokevirtual 180, 3, [0, 169, 2, 0], 0, 0), none, none, some (.ireturn, 1, [], 0, 0)]]
def F_M_land_273 (N : Nat) (bk : (Int32 → Int32 → MH → Option (Int32 × MH)) × (Int32 → MH → Option (Int32 × MH)) × (Int32 → MH → Option (Int32 × MH)) × (Int32 → MH → Option (Int32 × MH)) × (Int32 → MH → Option (Int32 × MH)) × (Int32 → MH → Option (Int32 × MH)) × (Int32 → MH → Option (Int32 × MH))) (a3 : Int32) (h : MH) : Option (Int32 × MH) :=
  if 6 ≤ a3 then
  (let h29 : MH := sI h 68 48 0
  let h30 : MH := sI h29 68 49 0
  let h31 : MH := sI h30 68 75 0
  (f_M_gives N (gI h31 68 31) h31).bind (fun x32 =>
  some (x32.1, x32.2)))
  else
  (if inB a3 6 = true then
  (if inB a3 6 = true then
  (let h33 : MH := sI h 85 (iN a3) (gI h 78 (iN a3))
  if inB a3 6 = true then
  (if inB a3 6 = true then
  (let h34 : MH := sI h33 86 (iN a3) (gI h33 79 (iN a3))
  if inB a3 6 = true then
  (if inB a3 6 = true then
  (let h35 : MH := sI h34 87 (iN a3) (gI h34 80 (iN a3))
  let v36 : Int32 := a3 + 1
  (bk.2.2.2.2.2.2) v36 h35)
  else none)
  else none)
  else none)
  else none)
  else none)
  else none)
def F_M_land_247 (N : Nat) (bk : (Int32 → Int32 → MH → Option (Int32 × MH)) × (Int32 → MH → Option (Int32 × MH)) × (Int32 → MH → Option (Int32 × MH)) × (Int32 → MH → Option (Int32 × MH)) × (Int32 → MH → Option (Int32 × MH)) × (Int32 → MH → Option (Int32 × MH)) × (Int32 → MH → Option (Int32 × MH))) (a3 : Int32) (h : MH) : Option (Int32 × MH) :=
  if 48 ≤ a3 then
  (F_M_land_273 N bk 0 h)
  else
  (if inB a3 48 = true then
  (if inB a3 48 = true then
  (let h27 : MH := sI h 88 (iN a3) (gI h 81 (iN a3))
  let v28 : Int32 := a3 + 1
  (bk.2.2.2.2.2.1) v28 h27)
  else none)
  else none)
def F_M_land_221 (N : Nat) (bk : (Int32 → Int32 → MH → Option (Int32 × MH)) × (Int32 → MH → Option (Int32 × MH)) × (Int32 → MH → Option (Int32 × MH)) × (Int32 → MH → Option (Int32 × MH)) × (Int32 → MH → Option (Int32 × MH)) × (Int32 → MH → Option (Int32 × MH)) × (Int32 → MH → Option (Int32 × MH))) (a3 : Int32) (h : MH) : Option (Int32 × MH) :=
  if 36 ≤ a3 then
  (F_M_land_247 N bk 0 h)
  else
  (if inB a3 36 = true then
  (if inB a3 36 = true then
  (let h25 : MH := sI h 89 (iN a3) ((gI h 82 (iN a3)) &&& 1)
  let v26 : Int32 := a3 + 1
  (bk.2.2.2.2.1) v26 h25)
  else none)
  else none)
def F_M_land_154 (N : Nat) (bk : (Int32 → Int32 → MH → Option (Int32 × MH)) × (Int32 → MH → Option (Int32 × MH)) × (Int32 → MH → Option (Int32 × MH)) × (Int32 → MH → Option (Int32 × MH)) × (Int32 → MH → Option (Int32 × MH)) × (Int32 → MH → Option (Int32 × MH)) × (Int32 → MH → Option (Int32 × MH))) (a2 : Int32) (h : MH) : Option (Int32 × MH) :=
  if a2 = 0 then
  (let h20 : MH := sI h 68 14 (gI h 68 16)
  if (gI h20 68 16) ≤ 0 then
  (let h21 : MH := sI h20 68 32 (gI h20 68 29)
  let h22 : MH := sI h21 68 33 (gI h21 68 30)
  F_M_land_221 N bk 0 h22)
  else
  ((f_M_refuse N 9 h20).bind (fun x23 =>
  some (x23.1, x23.2))))
  else
  ((f_M_part N h).bind (fun x24 =>
  if x24.1 = 0 then
  ((bk.2.2.2.1) 0 x24.2)
  else
  (if (gI x24.2 68 10) = 0 then
  ((bk.2.2.2.1) 0 x24.2)
  else
  ((bk.2.2.2.1) 1 x24.2))))
def F_M_land_111 (N : Nat) (bk : (Int32 → Int32 → MH → Option (Int32 × MH)) × (Int32 → MH → Option (Int32 × MH)) × (Int32 → MH → Option (Int32 × MH)) × (Int32 → MH → Option (Int32 × MH)) × (Int32 → MH → Option (Int32 × MH)) × (Int32 → MH → Option (Int32 × MH)) × (Int32 → MH → Option (Int32 × MH))) (a2 : Int32) (h : MH) : Option (Int32 × MH) :=
  if 48 ≤ a2 then
  ((f_M_next N h).bind (fun x16 =>
  if (gI x16 68 10) = 0 then
  (F_M_land_154 N bk 0 x16)
  else
  (F_M_land_154 N bk 1 x16)))
  else
  (if inB a2 48 = true then
  (let h17 : MH := sI h 84 (iN a2) ((0 : Int32) &&& 1)
  if inB a2 48 = true then
  (let h18 : MH := sI h17 81 (iN a2) 0
  let v19 : Int32 := a2 + 1
  (bk.2.2.1) v19 h18)
  else none)
  else none)
def F_M_land_90 (N : Nat) (bk : (Int32 → Int32 → MH → Option (Int32 × MH)) × (Int32 → MH → Option (Int32 × MH)) × (Int32 → MH → Option (Int32 × MH)) × (Int32 → MH → Option (Int32 × MH)) × (Int32 → MH → Option (Int32 × MH)) × (Int32 → MH → Option (Int32 × MH)) × (Int32 → MH → Option (Int32 × MH))) (a2 : Int32) (h : MH) : Option (Int32 × MH) :=
  if 36 ≤ a2 then
  (F_M_land_111 N bk 0 h)
  else
  (if inB a2 36 = true then
  (let h14 : MH := sI h 82 (iN a2) ((0 : Int32) &&& 1)
  let v15 : Int32 := a2 + 1
  (bk.2.1) v15 h14)
  else none)
def F_M_land_25 (N : Nat) (bk : (Int32 → Int32 → MH → Option (Int32 × MH)) × (Int32 → MH → Option (Int32 × MH)) × (Int32 → MH → Option (Int32 × MH)) × (Int32 → MH → Option (Int32 × MH)) × (Int32 → MH → Option (Int32 × MH)) × (Int32 → MH → Option (Int32 × MH)) × (Int32 → MH → Option (Int32 × MH))) (a1 : Int32) (a2 : Int32) (h : MH) : Option (Int32 × MH) :=
  if a1 ≤ a2 then
  (let h4 : MH := sI h 68 8 0
  let h5 : MH := sI h4 68 16 0
  let h6 : MH := sI h5 68 15 ((-1))
  let h7 : MH := sI h6 68 12 0
  let h8 : MH := sI h7 68 28 0
  let h9 : MH := sI h8 68 29 0
  let h10 : MH := sI h9 68 30 0
  let h11 : MH := sI h10 68 31 0
  F_M_land_90 N bk 0 h11)
  else
  (if inB a2 600 = true then
  (if inB a2 600 = true then
  (let h12 : MH := sI h 73 (iN a2) (gI h 72 (iN a2)).toInt8.toInt32
  let v13 : Int32 := a2 + 1
  (bk.1) a1 v13 h12)
  else none)
  else none)
def F_M_land_0 (N : Nat) (bk : (Int32 → Int32 → MH → Option (Int32 × MH)) × (Int32 → MH → Option (Int32 × MH)) × (Int32 → MH → Option (Int32 × MH)) × (Int32 → MH → Option (Int32 × MH)) × (Int32 → MH → Option (Int32 × MH)) × (Int32 → MH → Option (Int32 × MH)) × (Int32 → MH → Option (Int32 × MH))) (a1 : Int32) (h : MH) : Option (Int32 × MH) :=
  if a1 < 0 then
  ((f_M_refuse N 1 h).bind (fun x1 =>
  some (x1.1, x1.2)))
  else
  (if a1 ≤ (gI h 68 8) then
  (let h2 : MH := sI h 68 9 a1
  F_M_land_25 N bk a1 0 h2)
  else
  ((f_M_refuse N 1 h).bind (fun x3 =>
  some (x3.1, x3.2))))
def L_M_land (N : Nat) : Nat → ((Int32 → Int32 → MH → Option (Int32 × MH)) × (Int32 → MH → Option (Int32 × MH)) × (Int32 → MH → Option (Int32 × MH)) × (Int32 → MH → Option (Int32 × MH)) × (Int32 → MH → Option (Int32 × MH)) × (Int32 → MH → Option (Int32 × MH)) × (Int32 → MH → Option (Int32 × MH)))
  | 0 => (fun _ _ _ => none, fun _ _ => none, fun _ _ => none, fun _ _ => none, fun _ _ => none, fun _ _ => none, fun _ _ => none)
  | n + 1 => (F_M_land_25 N (L_M_land N n), F_M_land_90 N (L_M_land N n), F_M_land_111 N (L_M_land N n), F_M_land_154 N (L_M_land N n), F_M_land_221 N (L_M_land N n), F_M_land_247 N (L_M_land N n), F_M_land_273 N (L_M_land N n))
def f_M_land (N : Nat) (a1 : Int32) (h : MH) : Option (Int32 × MH) := F_M_land_0 N (L_M_land N N) a1 h
def C_M_land (N : Nat) : MC := (KDL, false, (fun _ => 0), jsB, (fun j => match Nat.beq j 168 with
    | true => w_M_refuse (f_M_refuse N)
    | false => match Nat.beq j 169 with
    | true => w_M_gives (f_M_gives N)
    | false => match Nat.beq j 202 with
    | true => w_M_part (f_M_part N)
    | false => fun _ _ => none), (fun _ _ _ => none), (fun _ _ _ => none), (fun j => match Nat.beq j 183 with
    | true => w_M_next (f_M_next N)
    | false => fun _ _ => none))
def D_M_land (N : Nat) (n pc : Nat) (lv : ML) (st : List MV) (h : MH) : Option (Int32 × MH) :=
  match Nat.beq pc 0 with
  | true => (match lk lv 0, lk lv 1, st with
    | some (.inr (.inr (0, 12, 68))), some (.inl a1), [] => F_M_land_0 N (L_M_land N n) a1 h
    | _, _, _ => none)
  | false => match Nat.beq pc 25 with
  | true => (match lk lv 0, lk lv 1, lk lv 2, st with
    | some (.inr (.inr (0, 12, 68))), some (.inl a1), some (.inl a2), [] => F_M_land_25 N (L_M_land N n) a1 a2 h
    | _, _, _, _ => none)
  | false => match Nat.beq pc 90 with
  | true => (match lk lv 0, lk lv 2, st with
    | some (.inr (.inr (0, 12, 68))), some (.inl a2), [] => F_M_land_90 N (L_M_land N n) a2 h
    | _, _, _ => none)
  | false => match Nat.beq pc 111 with
  | true => (match lk lv 0, lk lv 2, st with
    | some (.inr (.inr (0, 12, 68))), some (.inl a2), [] => F_M_land_111 N (L_M_land N n) a2 h
    | _, _, _ => none)
  | false => match Nat.beq pc 154 with
  | true => (match lk lv 0, lk lv 2, st with
    | some (.inr (.inr (0, 12, 68))), some (.inl a2), [] => F_M_land_154 N (L_M_land N n) a2 h
    | _, _, _ => none)
  | false => match Nat.beq pc 221 with
  | true => (match lk lv 0, lk lv 3, st with
    | some (.inr (.inr (0, 12, 68))), some (.inl a3), [] => F_M_land_221 N (L_M_land N n) a3 h
    | _, _, _ => none)
  | false => match Nat.beq pc 247 with
  | true => (match lk lv 0, lk lv 3, st with
    | some (.inr (.inr (0, 12, 68))), some (.inl a3), [] => F_M_land_247 N (L_M_land N n) a3 h
    | _, _, _ => none)
  | false => match Nat.beq pc 273 with
  | true => (match lk lv 0, lk lv 3, st with
    | some (.inr (.inr (0, 12, 68))), some (.inl a3), [] => F_M_land_273 N (L_M_land N n) a3 h
    | _, _, _ => none)
  | false => none
def B_M_land (N : Nat) (n pc : Nat) (lv : ML) (st : List MV) (h : MH) : Option (Int32 × MH) :=
  match Nat.beq pc 25 with
  | true => (match lk lv 0, lk lv 1, lk lv 2, st with
    | some (.inr (.inr (0, 12, 68))), some (.inl a1), some (.inl a2), [] => ((L_M_land N n).1) a1 a2 h
    | _, _, _, _ => none)
  | false => match Nat.beq pc 90 with
  | true => (match lk lv 0, lk lv 2, st with
    | some (.inr (.inr (0, 12, 68))), some (.inl a2), [] => ((L_M_land N n).2.1) a2 h
    | _, _, _ => none)
  | false => match Nat.beq pc 111 with
  | true => (match lk lv 0, lk lv 2, st with
    | some (.inr (.inr (0, 12, 68))), some (.inl a2), [] => ((L_M_land N n).2.2.1) a2 h
    | _, _, _ => none)
  | false => match Nat.beq pc 154 with
  | true => (match lk lv 0, lk lv 2, st with
    | some (.inr (.inr (0, 12, 68))), some (.inl a2), [] => ((L_M_land N n).2.2.2.1) a2 h
    | _, _, _ => none)
  | false => match Nat.beq pc 221 with
  | true => (match lk lv 0, lk lv 3, st with
    | some (.inr (.inr (0, 12, 68))), some (.inl a3), [] => ((L_M_land N n).2.2.2.2.1) a3 h
    | _, _, _ => none)
  | false => match Nat.beq pc 247 with
  | true => (match lk lv 0, lk lv 3, st with
    | some (.inr (.inr (0, 12, 68))), some (.inl a3), [] => ((L_M_land N n).2.2.2.2.2.1) a3 h
    | _, _, _ => none)
  | false => match Nat.beq pc 273 with
  | true => (match lk lv 0, lk lv 3, st with
    | some (.inr (.inr (0, 12, 68))), some (.inl a3), [] => ((L_M_land N n).2.2.2.2.2.2) a3 h
    | _, _, _ => none)
  | false => none
set_option maxRecDepth 1000000 in
theorem E_M_land_0 (N : Nat) (n : Nat) (a1 : Int32) (h : MH) : seg (C_M_land N) 4 0 rI T_M_land [0, 25, 90, 111, 154, 221, 247, 273] (fun q lv st h => match Nat.ble 1 q with
    | true => D_M_land N n q lv st h
    | false => B_M_land N n q lv st h) 400 true 0 [(0, .inr (.inr (0, 12, 68))), (1, .inl a1)] [] h = F_M_land_0 N (L_M_land N n) a1 h := (rfl)
set_option maxRecDepth 1000000 in
theorem E_M_land_25 (N : Nat) (n : Nat) (a1 : Int32) (a2 : Int32) (h : MH) : seg (C_M_land N) 4 0 rI T_M_land [0, 25, 90, 111, 154, 221, 247, 273] (fun q lv st h => match Nat.ble 26 q with
    | true => D_M_land N n q lv st h
    | false => B_M_land N n q lv st h) 400 true 25 [(0, .inr (.inr (0, 12, 68))), (1, .inl a1), (2, .inl a2)] [] h = F_M_land_25 N (L_M_land N n) a1 a2 h := (rfl)
set_option maxRecDepth 1000000 in
theorem E_M_land_90 (N : Nat) (n : Nat) (a2 : Int32) (h : MH) : seg (C_M_land N) 4 0 rI T_M_land [0, 25, 90, 111, 154, 221, 247, 273] (fun q lv st h => match Nat.ble 91 q with
    | true => D_M_land N n q lv st h
    | false => B_M_land N n q lv st h) 400 true 90 [(0, .inr (.inr (0, 12, 68))), (2, .inl a2)] [] h = F_M_land_90 N (L_M_land N n) a2 h := (rfl)
set_option maxRecDepth 1000000 in
theorem E_M_land_111 (N : Nat) (n : Nat) (a2 : Int32) (h : MH) : seg (C_M_land N) 4 0 rI T_M_land [0, 25, 90, 111, 154, 221, 247, 273] (fun q lv st h => match Nat.ble 112 q with
    | true => D_M_land N n q lv st h
    | false => B_M_land N n q lv st h) 400 true 111 [(0, .inr (.inr (0, 12, 68))), (2, .inl a2)] [] h = F_M_land_111 N (L_M_land N n) a2 h := (rfl)
set_option maxRecDepth 1000000 in
theorem E_M_land_154 (N : Nat) (n : Nat) (a2 : Int32) (h : MH) : seg (C_M_land N) 4 0 rI T_M_land [0, 25, 90, 111, 154, 221, 247, 273] (fun q lv st h => match Nat.ble 155 q with
    | true => D_M_land N n q lv st h
    | false => B_M_land N n q lv st h) 400 true 154 [(0, .inr (.inr (0, 12, 68))), (2, .inl a2)] [] h = F_M_land_154 N (L_M_land N n) a2 h := (rfl)
set_option maxRecDepth 1000000 in
theorem E_M_land_221 (N : Nat) (n : Nat) (a3 : Int32) (h : MH) : seg (C_M_land N) 4 0 rI T_M_land [0, 25, 90, 111, 154, 221, 247, 273] (fun q lv st h => match Nat.ble 222 q with
    | true => D_M_land N n q lv st h
    | false => B_M_land N n q lv st h) 400 true 221 [(0, .inr (.inr (0, 12, 68))), (3, .inl a3)] [] h = F_M_land_221 N (L_M_land N n) a3 h := (rfl)
set_option maxRecDepth 1000000 in
theorem E_M_land_247 (N : Nat) (n : Nat) (a3 : Int32) (h : MH) : seg (C_M_land N) 4 0 rI T_M_land [0, 25, 90, 111, 154, 221, 247, 273] (fun q lv st h => match Nat.ble 248 q with
    | true => D_M_land N n q lv st h
    | false => B_M_land N n q lv st h) 400 true 247 [(0, .inr (.inr (0, 12, 68))), (3, .inl a3)] [] h = F_M_land_247 N (L_M_land N n) a3 h := (rfl)
set_option maxRecDepth 1000000 in
theorem E_M_land_273 (N : Nat) (n : Nat) (a3 : Int32) (h : MH) : seg (C_M_land N) 4 0 rI T_M_land [0, 25, 90, 111, 154, 221, 247, 273] (fun q lv st h => match Nat.ble 274 q with
    | true => D_M_land N n q lv st h
    | false => B_M_land N n q lv st h) 400 true 273 [(0, .inr (.inr (0, 12, 68))), (3, .inl a3)] [] h = F_M_land_273 N (L_M_land N n) a3 h := (rfl)
def T_M_fault : List (List (Option RW)) := [
  [some (.iload_n 1, 1, [1], 0, 0), some (.ifCond .ne 10, 3, [11], 0, 0), none, none, some (.aload_n 0, 1, [0], 0, 0), some (.getfield 31, 3, [12, 14, 0], 0, 0), none, none, some (.goto 16, 3, [24], 0, 0), none, none, some (.iload_n 1, 1, [1], 0, 0), some (.iconst 1, 1, [], 1, 0), some (.if_icmp .ne 10, 3, [23], 0, 0), none, none, some (.aload_n 0, 1, [0], 0, 0), some (.getfield 35, 3, [12, 15, 0], 0, 0), none, none, some (.goto 4, 3, [24], 0, 0), none, none, some (.iconst (-1), 1, [], (-1), 0), some (.ireturn, 1, [], 0, 0)]]
def f_M_fault (N : Nat) (a1 : Int32) (h : MH) : Option (Int32 × MH) :=
  if a1 = 0 then
  (some (gI h 68 14, h))
  else
  (if a1 = 1 then
  (some (gI h 68 15, h))
  else
  (some ((-1), h)))
def C_M_fault (N : Nat) : MC := (KDL, false, (fun _ => 0), jsB, (fun _ _ _ => none), (fun _ _ _ => none), (fun _ _ _ => none), (fun _ _ _ => none))
def D_M_fault (N : Nat) (n pc : Nat) (lv : ML) (st : List MV) (h : MH) : Option (Int32 × MH) :=
  match Nat.beq pc 0 with
  | true => (match lk lv 0, lk lv 1, st with
    | some (.inr (.inr (0, 12, 68))), some (.inl a1), [] => f_M_fault N a1 h
    | _, _, _ => none)
  | false => none
set_option maxRecDepth 1000000 in
theorem E_M_fault_0 (N : Nat) (n : Nat) (a1 : Int32) (h : MH) : seg (C_M_fault N) 2 0 rI T_M_fault [0] (fun q lv st h => match Nat.ble 1 q with
    | true => D_M_fault N n q lv st h
    | false => none) 400 true 0 [(0, .inr (.inr (0, 12, 68))), (1, .inl a1)] [] h = f_M_fault N a1 h := (rfl)
def T_M_isMark : List (List (Option RW)) := [
  [some (.iload_n 1, 1, [1], 0, 0), some (.ifCond .lt 15, 3, [16], 0, 0), none, none, some (.iload_n 1, 1, [1], 0, 0), some (.aload_n 0, 1, [0], 0, 0), some (.getfield 351, 3, [12, 33, 0], 0, 0), none, none, some (.if_icmp .ge 7, 3, [16], 0, 0), none, none, some (.iconst 1, 1, [], 1, 0), some (.goto 4, 3, [17], 0, 0), none, none, some (.iconst 0, 1, [], 0, 0), some (.ireturn, 1, [], 0, 0)]]
def f_M_isMark (N : Nat) (a1 : Int32) (h : MH) : Option (Int32 × MH) :=
  if a1 < 0 then
  (some (0, h))
  else
  (if (gI h 68 33) ≤ a1 then
  (some (0, h))
  else
  (some (1, h)))
def C_M_isMark (N : Nat) : MC := (KDL, false, (fun _ => 0), jsB, (fun _ _ _ => none), (fun _ _ _ => none), (fun _ _ _ => none), (fun _ _ _ => none))
def D_M_isMark (N : Nat) (n pc : Nat) (lv : ML) (st : List MV) (h : MH) : Option (Int32 × MH) :=
  match Nat.beq pc 0 with
  | true => (match lk lv 0, lk lv 1, st with
    | some (.inr (.inr (0, 12, 68))), some (.inl a1), [] => f_M_isMark N a1 h
    | _, _, _ => none)
  | false => none
set_option maxRecDepth 1000000 in
theorem E_M_isMark_0 (N : Nat) (n : Nat) (a1 : Int32) (h : MH) : seg (C_M_isMark N) 2 1 rI T_M_isMark [0] (fun q lv st h => match Nat.ble 1 q with
    | true => D_M_isMark N n q lv st h
    | false => none) 400 true 0 [(0, .inr (.inr (0, 12, 68))), (1, .inl a1)] [] h = f_M_isMark N a1 h := (rfl)
def T_M_isCell : List (List (Option RW)) := [
  [some (.iload_n 1, 1, [1], 0, 0), some (.ifCond .lt 15, 3, [16], 0, 0), none, none, some (.iload_n 1, 1, [1], 0, 0), some (.aload_n 0, 1, [0], 0, 0), some (.getfield 348, 3, [12, 32, 0], 0, 0), none, none, some (.if_icmp .ge 7, 3, [16], 0, 0), none, none, some (.iconst 1, 1, [], 1, 0), some (.goto 4, 3, [17], 0, 0), none, none, some (.iconst 0, 1, [], 0, 0), some (.ireturn, 1, [], 0, 0)]]
def f_M_isCell (N : Nat) (a1 : Int32) (h : MH) : Option (Int32 × MH) :=
  if a1 < 0 then
  (some (0, h))
  else
  (if (gI h 68 32) ≤ a1 then
  (some (0, h))
  else
  (some (1, h)))
def C_M_isCell (N : Nat) : MC := (KDL, false, (fun _ => 0), jsB, (fun _ _ _ => none), (fun _ _ _ => none), (fun _ _ _ => none), (fun _ _ _ => none))
def D_M_isCell (N : Nat) (n pc : Nat) (lv : ML) (st : List MV) (h : MH) : Option (Int32 × MH) :=
  match Nat.beq pc 0 with
  | true => (match lk lv 0, lk lv 1, st with
    | some (.inr (.inr (0, 12, 68))), some (.inl a1), [] => f_M_isCell N a1 h
    | _, _, _ => none)
  | false => none
set_option maxRecDepth 1000000 in
theorem E_M_isCell_0 (N : Nat) (n : Nat) (a1 : Int32) (h : MH) : seg (C_M_isCell N) 2 1 rI T_M_isCell [0] (fun q lv st h => match Nat.ble 1 q with
    | true => D_M_isCell N n q lv st h
    | false => none) 400 true 0 [(0, .inr (.inr (0, 12, 68))), (1, .inl a1)] [] h = f_M_isCell N a1 h := (rfl)
def T_M_many : List (List (Option RW)) := [
  [some (.iload_n 1, 1, [1], 0, 0), some (.ifCond .lt 8, 3, [9], 0, 0), none, none, some (.iload_n 1, 1, [1], 0, 0), some (.iconst 1, 1, [], 1, 0), some (.if_icmp .le 11, 3, [17], 0, 0), none, none, some (.aload_n 0, 1, [0], 0, 0), some (.iconst 1, 1, [], 1, 0), some (.invokevirtual 342, 3, [0, 168, 2, 0], 0, 0), none, none, some (.goto 22, 3, [36], 0, 0), none, none, some (.aload_n 0, 1, [0], 0, 0), some (.iload_n 1, 1, [1], 0, 0), some (.ifCond .ne 10, 3, [29], 0, 0), none, none, some (.aload_n 0, 1, [0], 0, 0), some (.getfield 348, 3, [12, 32, 0], 0, 0), none, none, some (.goto 7, 3, [33], 0, 0), none, none, some (.aload_n 0, 1, [0], 0, 0), some (.getfield 351, 3, [12, 33, 0], 0, 0), none],
  [none, some (.invokevirtual 180, 3, [0, 169, 2, 0], 0, 0), none, none, some (.ireturn, 1, [], 0, 0)]]
def f_M_many (N : Nat) (a1 : Int32) (h : MH) : Option (Int32 × MH) :=
  if a1 < 0 then
  ((f_M_refuse N 1 h).bind (fun x1 =>
  some (x1.1, x1.2)))
  else
  (if a1 ≤ 1 then
  (if a1 = 0 then
  ((f_M_gives N (gI h 68 32) h).bind (fun x2 =>
  some (x2.1, x2.2)))
  else
  ((f_M_gives N (gI h 68 33) h).bind (fun x3 =>
  some (x3.1, x3.2))))
  else
  ((f_M_refuse N 1 h).bind (fun x4 =>
  some (x4.1, x4.2))))
def C_M_many (N : Nat) : MC := (KDL, false, (fun _ => 0), jsB, (fun j => match Nat.beq j 168 with
    | true => w_M_refuse (f_M_refuse N)
    | false => match Nat.beq j 169 with
    | true => w_M_gives (f_M_gives N)
    | false => fun _ _ => none), (fun _ _ _ => none), (fun _ _ _ => none), (fun _ _ _ => none))
def D_M_many (N : Nat) (n pc : Nat) (lv : ML) (st : List MV) (h : MH) : Option (Int32 × MH) :=
  match Nat.beq pc 0 with
  | true => (match lk lv 0, lk lv 1, st with
    | some (.inr (.inr (0, 12, 68))), some (.inl a1), [] => f_M_many N a1 h
    | _, _, _ => none)
  | false => none
set_option maxRecDepth 1000000 in
theorem E_M_many_0 (N : Nat) (n : Nat) (a1 : Int32) (h : MH) : seg (C_M_many N) 2 0 rI T_M_many [0] (fun q lv st h => match Nat.ble 1 q with
    | true => D_M_many N n q lv st h
    | false => none) 400 true 0 [(0, .inr (.inr (0, 12, 68))), (1, .inl a1)] [] h = f_M_many N a1 h := (rfl)
def T_M_moves : List (List (Option RW)) := [
  [some (.aload_n 0, 1, [0], 0, 0), some (.iload_n 1, 1, [1], 0, 0), some (.invokevirtual 363, 3, [0, 206, 2, 0], 0, 0), none, none, some (.ifCond .eq 29, 3, [34], 0, 0), none, none, some (.aload_n 0, 1, [0], 0, 0), some (.iload_n 2, 1, [2], 0, 0), some (.invokevirtual 366, 3, [0, 205, 2, 0], 0, 0), none, none, some (.ifCond .eq 21, 3, [34], 0, 0), none, none, some (.aload_n 0, 1, [0], 0, 0), some (.aload_n 0, 1, [0], 0, 0), some (.getfield 81, 3, [12, 37, 2, 1, 48, 20], 0, 0), none, none, some (.bipush 8, 2, [], 8, 0), none, some (.iload_n 1, 1, [1], 0, 0), some (.imul, 1, [], 0, 0), some (.iload_n 2, 1, [2], 0, 0), some (.iadd, 1, [], 0, 0), some (.iaload, 1, [], 0, 0), some (.invokevirtual 180, 3, [0, 169, 2, 0], 0, 0), none, none, some (.goto 8, 3, [39], 0, 0)],
  [none, none, some (.aload_n 0, 1, [0], 0, 0), some (.iconst 1, 1, [], 1, 0), some (.invokevirtual 342, 3, [0, 168, 2, 0], 0, 0), none, none, some (.ireturn, 1, [], 0, 0)]]
def f_M_moves (N : Nat) (a1 : Int32) (a2 : Int32) (h : MH) : Option (Int32 × MH) :=
  (f_M_isCell N a1 h).bind (fun x1 =>
  if x1.1 = 0 then
  ((f_M_refuse N 1 x1.2).bind (fun x2 =>
  some (x2.1, x2.2)))
  else
  ((f_M_isMark N a2 x1.2).bind (fun x3 =>
  if x3.1 = 0 then
  ((f_M_refuse N 1 x3.2).bind (fun x4 =>
  some (x4.1, x4.2)))
  else
  (if inB ((8 * a1) + a2) 48 = true then
  ((f_M_gives N (gI x3.2 88 (iN ((8 * a1) + a2))) x3.2).bind (fun x5 =>
  some (x5.1, x5.2)))
  else none))))
def C_M_moves (N : Nat) : MC := (KDL, false, (fun _ => 0), jsB, (fun j => match Nat.beq j 168 with
    | true => w_M_refuse (f_M_refuse N)
    | false => match Nat.beq j 169 with
    | true => w_M_gives (f_M_gives N)
    | false => match Nat.beq j 205 with
    | true => w_M_isMark (f_M_isMark N)
    | false => match Nat.beq j 206 with
    | true => w_M_isCell (f_M_isCell N)
    | false => fun _ _ => none), (fun _ _ _ => none), (fun _ _ _ => none), (fun _ _ _ => none))
def D_M_moves (N : Nat) (n pc : Nat) (lv : ML) (st : List MV) (h : MH) : Option (Int32 × MH) :=
  match Nat.beq pc 0 with
  | true => (match lk lv 0, lk lv 1, lk lv 2, st with
    | some (.inr (.inr (0, 12, 68))), some (.inl a1), some (.inl a2), [] => f_M_moves N a1 a2 h
    | _, _, _, _ => none)
  | false => none
set_option maxRecDepth 1000000 in
theorem E_M_moves_0 (N : Nat) (n : Nat) (a1 : Int32) (a2 : Int32) (h : MH) : seg (C_M_moves N) 3 0 rI T_M_moves [0] (fun q lv st h => match Nat.ble 1 q with
    | true => D_M_moves N n q lv st h
    | false => none) 400 true 0 [(0, .inr (.inr (0, 12, 68))), (1, .inl a1), (2, .inl a2)] [] h = f_M_moves N a1 a2 h := (rfl)
def T_M_isYear : List (List (Option RW)) := [
  [some (.iload_n 0, 1, [0], 0, 0), some (.ifCond .lt 13, 3, [14], 0, 0), none, none, some (.iload_n 0, 1, [0], 0, 0), some (.bipush 20, 2, [], 20, 0), none, some (.if_icmp .ge 7, 3, [14], 0, 0), none, none, some (.iconst 1, 1, [], 1, 0), some (.goto 4, 3, [15], 0, 0), none, none, some (.iconst 0, 1, [], 0, 0), some (.ireturn, 1, [], 0, 0)]]
def f_M_isYear (N : Nat) (a0 : Int32) (h : MH) : Option (Int32 × MH) :=
  if a0 < 0 then
  (some (0, h))
  else
  (if 20 ≤ a0 then
  (some (0, h))
  else
  (some (1, h)))
def C_M_isYear (N : Nat) : MC := (KDL, false, (fun _ => 0), jsB, (fun _ _ _ => none), (fun _ _ _ => none), (fun _ _ _ => none), (fun _ _ _ => none))
def D_M_isYear (N : Nat) (n pc : Nat) (lv : ML) (st : List MV) (h : MH) : Option (Int32 × MH) :=
  match Nat.beq pc 0 with
  | true => (match lk lv 0, st with
    | some (.inl a0), [] => f_M_isYear N a0 h
    | _, _ => none)
  | false => none
set_option maxRecDepth 1000000 in
theorem E_M_isYear_0 (N : Nat) (n : Nat) (a0 : Int32) (h : MH) : seg (C_M_isYear N) 1 1 rI T_M_isYear [0] (fun q lv st h => match Nat.ble 1 q with
    | true => D_M_isYear N n q lv st h
    | false => none) 400 true 0 [(0, .inl a0)] [] h = f_M_isYear N a0 h := (rfl)
def T_M_isDay : List (List (Option RW)) := [
  [some (.iload_n 0, 1, [0], 0, 0), some (.ifCond .lt 14, 3, [15], 0, 0), none, none, some (.iload_n 0, 1, [0], 0, 0), some (.sipush 9999, 3, [], 9999, 0), none, none, some (.if_icmp .gt 7, 3, [15], 0, 0), none, none, some (.iconst 1, 1, [], 1, 0), some (.goto 4, 3, [16], 0, 0), none, none, some (.iconst 0, 1, [], 0, 0), some (.ireturn, 1, [], 0, 0)]]
def f_M_isDay (N : Nat) (a0 : Int32) (h : MH) : Option (Int32 × MH) :=
  if a0 < 0 then
  (some (0, h))
  else
  (if 9999 < a0 then
  (some (0, h))
  else
  (some (1, h)))
def C_M_isDay (N : Nat) : MC := (KDL, false, (fun _ => 0), jsB, (fun _ _ _ => none), (fun _ _ _ => none), (fun _ _ _ => none), (fun _ _ _ => none))
def D_M_isDay (N : Nat) (n pc : Nat) (lv : ML) (st : List MV) (h : MH) : Option (Int32 × MH) :=
  match Nat.beq pc 0 with
  | true => (match lk lv 0, st with
    | some (.inl a0), [] => f_M_isDay N a0 h
    | _, _ => none)
  | false => none
set_option maxRecDepth 1000000 in
theorem E_M_isDay_0 (N : Nat) (n : Nat) (a0 : Int32) (h : MH) : seg (C_M_isDay N) 1 1 rI T_M_isDay [0] (fun q lv st h => match Nat.ble 1 q with
    | true => D_M_isDay N n q lv st h
    | false => none) 400 true 0 [(0, .inl a0)] [] h = f_M_isDay N a0 h := (rfl)
def T_M_isPlace : List (List (Option RW)) := [
  [some (.iload_n 0, 1, [0], 0, 0), some (.sipush (-2000), 3, [], (-2000), 0), none, none, some (.if_icmp .lt 14, 3, [18], 0, 0), none, none, some (.iload_n 0, 1, [0], 0, 0), some (.sipush 2000, 3, [], 2000, 0), none, none, some (.if_icmp .gt 7, 3, [18], 0, 0), none, none, some (.iconst 1, 1, [], 1, 0), some (.goto 4, 3, [19], 0, 0), none, none, some (.iconst 0, 1, [], 0, 0), some (.ireturn, 1, [], 0, 0)]]
def f_M_isPlace (N : Nat) (a0 : Int32) (h : MH) : Option (Int32 × MH) :=
  if a0 < ((-2000)) then
  (some (0, h))
  else
  (if 2000 < a0 then
  (some (0, h))
  else
  (some (1, h)))
def C_M_isPlace (N : Nat) : MC := (KDL, false, (fun _ => 0), jsB, (fun _ _ _ => none), (fun _ _ _ => none), (fun _ _ _ => none), (fun _ _ _ => none))
def D_M_isPlace (N : Nat) (n pc : Nat) (lv : ML) (st : List MV) (h : MH) : Option (Int32 × MH) :=
  match Nat.beq pc 0 with
  | true => (match lk lv 0, st with
    | some (.inl a0), [] => f_M_isPlace N a0 h
    | _, _ => none)
  | false => none
set_option maxRecDepth 1000000 in
theorem E_M_isPlace_0 (N : Nat) (n : Nat) (a0 : Int32) (h : MH) : seg (C_M_isPlace N) 1 1 rI T_M_isPlace [0] (fun q lv st h => match Nat.ble 1 q with
    | true => D_M_isPlace N n q lv st h
    | false => none) 400 true 0 [(0, .inl a0)] [] h = f_M_isPlace N a0 h := (rfl)
def T_M_row : List (List (Option RW)) := [
  [some (.aload_n 0, 1, [0], 0, 0), some (.iload_n 1, 1, [1], 0, 0), some (.invokevirtual 366, 3, [0, 205, 2, 0], 0, 0), none, none, some (.ifCond .eq 38, 3, [43], 0, 0), none, none, some (.iload_n 2, 1, [2], 0, 0), some (.invokestatic 369, 3, [2, 209, 1, 0], 0, 0), none, none, some (.ifCond .eq 31, 3, [43], 0, 0), none, none, some (.iload_n 3, 1, [3], 0, 0), some (.invokestatic 372, 3, [2, 211, 1, 0], 0, 0), none, none, some (.ifCond .eq 24, 3, [43], 0, 0), none, none, some (.iload 4, 2, [4], 0, 0), none, some (.ifCond .lt 19, 3, [43], 0, 0), none, none, some (.iload 4, 2, [4], 0, 0), none, some (.sipush 200, 3, [], 200, 0), none, none],
  [some (.if_icmp .gt 11, 3, [43], 0, 0), none, none, some (.iload 5, 2, [5], 0, 0), none, some (.invokestatic 375, 3, [2, 210, 1, 0], 0, 0), none, none, some (.ifCond .ne 9, 3, [49], 0, 0), none, none, some (.aload_n 0, 1, [0], 0, 0), some (.iconst 1, 1, [], 1, 0), some (.invokevirtual 188, 3, [0, 167, 2, 0], 0, 0), none, none, some (.ireturn, 1, [], 0, 0), some (.aload_n 0, 1, [0], 0, 0), some (.getfield 354, 3, [12, 48, 0], 0, 0), none, none, some (.sipush 160, 3, [], 160, 0), none, none, some (.if_icmp .ne 9, 3, [65], 0, 0), none, none, some (.aload_n 0, 1, [0], 0, 0), some (.iconst 4, 1, [], 4, 0), some (.invokevirtual 188, 3, [0, 167, 2, 0], 0, 0), none, none],
  [some (.ireturn, 1, [], 0, 0), some (.iload 5, 2, [5], 0, 0), none, some (.aload_n 0, 1, [0], 0, 0), some (.getfield 378, 3, [12, 50, 0], 0, 0), none, none, some (.if_icmp .ge 9, 3, [80], 0, 0), none, none, some (.aload_n 0, 1, [0], 0, 0), some (.iconst 5, 1, [], 5, 0), some (.invokevirtual 188, 3, [0, 167, 2, 0], 0, 0), none, none, some (.ireturn, 1, [], 0, 0), some (.aload_n 0, 1, [0], 0, 0), some (.iload 5, 2, [5], 0, 0), none, some (.putfield 378, 3, [12, 50, 0], 0, 0), none, none, some (.aload_n 0, 1, [0], 0, 0), some (.getfield 105, 3, [12, 52, 2, 1, 160, 27], 0, 0), none, none, some (.aload_n 0, 1, [0], 0, 0), some (.getfield 354, 3, [12, 48, 0], 0, 0), none, none, some (.iload_n 1, 1, [1], 0, 0), some (.iastore, 1, [], 0, 0)],
  [some (.aload_n 0, 1, [0], 0, 0), some (.getfield 108, 3, [12, 53, 2, 1, 160, 28], 0, 0), none, none, some (.aload_n 0, 1, [0], 0, 0), some (.getfield 354, 3, [12, 48, 0], 0, 0), none, none, some (.iload_n 2, 1, [2], 0, 0), some (.iastore, 1, [], 0, 0), some (.aload_n 0, 1, [0], 0, 0), some (.getfield 111, 3, [12, 54, 2, 1, 160, 29], 0, 0), none, none, some (.aload_n 0, 1, [0], 0, 0), some (.getfield 354, 3, [12, 48, 0], 0, 0), none, none, some (.iload_n 3, 1, [3], 0, 0), some (.iastore, 1, [], 0, 0), some (.aload_n 0, 1, [0], 0, 0), some (.getfield 114, 3, [12, 55, 2, 1, 160, 30], 0, 0), none, none, some (.aload_n 0, 1, [0], 0, 0), some (.getfield 354, 3, [12, 48, 0], 0, 0), none, none, some (.iload 4, 2, [4], 0, 0), none, some (.iastore, 1, [], 0, 0), some (.aload_n 0, 1, [0], 0, 0)],
  [some (.getfield 117, 3, [12, 56, 2, 1, 160, 31], 0, 0), none, none, some (.aload_n 0, 1, [0], 0, 0), some (.getfield 354, 3, [12, 48, 0], 0, 0), none, none, some (.iload 5, 2, [5], 0, 0), none, some (.iastore, 1, [], 0, 0), some (.aload_n 0, 1, [0], 0, 0), some (.dup, 1, [], 0, 0), some (.getfield 354, 3, [12, 48, 0], 0, 0), none, none, some (.iconst 1, 1, [], 1, 0), some (.iadd, 1, [], 0, 0), some (.putfield 354, 3, [12, 48, 0], 0, 0), none, none, some (.aload_n 0, 1, [0], 0, 0), some (.iconst 0, 1, [], 0, 0), some (.invokevirtual 188, 3, [0, 167, 2, 0], 0, 0), none, none, some (.ireturn, 1, [], 0, 0)]]
def f_M_row (N : Nat) (a1 : Int32) (a2 : Int32) (a3 : Int32) (a4 : Int32) (a5 : Int32) (h : MH) : Option (Int32 × MH) :=
  (f_M_isMark N a1 h).bind (fun x1 =>
  if x1.1 = 0 then
  ((f_M_is N 1 x1.2).bind (fun x2 =>
  match narOK 1 x2.1 with
  | true => some (x2.1, x2.2)
  | false => none))
  else
  ((f_M_isYear N a2 x1.2).bind (fun x3 =>
  if x3.1 = 0 then
  ((f_M_is N 1 x3.2).bind (fun x4 =>
  match narOK 1 x4.1 with
  | true => some (x4.1, x4.2)
  | false => none))
  else
  ((f_M_isPlace N a3 x3.2).bind (fun x5 =>
  if x5.1 = 0 then
  ((f_M_is N 1 x5.2).bind (fun x6 =>
  match narOK 1 x6.1 with
  | true => some (x6.1, x6.2)
  | false => none))
  else
  (if a4 < 0 then
  ((f_M_is N 1 x5.2).bind (fun x7 =>
  match narOK 1 x7.1 with
  | true => some (x7.1, x7.2)
  | false => none))
  else
  (if 200 < a4 then
  ((f_M_is N 1 x5.2).bind (fun x8 =>
  match narOK 1 x8.1 with
  | true => some (x8.1, x8.2)
  | false => none))
  else
  ((f_M_isDay N a5 x5.2).bind (fun x9 =>
  if x9.1 = 0 then
  ((f_M_is N 1 x9.2).bind (fun x10 =>
  match narOK 1 x10.1 with
  | true => some (x10.1, x10.2)
  | false => none))
  else
  (if (gI x9.2 68 48) = 160 then
  ((f_M_is N 4 x9.2).bind (fun x11 =>
  match narOK 1 x11.1 with
  | true => some (x11.1, x11.2)
  | false => none))
  else
  (if (gI x9.2 68 50) ≤ a5 then
  (let h12 : MH := sI x9.2 68 50 a5
  if inB (gI h12 68 48) 160 = true then
  (let h13 : MH := sI h12 95 (iN (gI h12 68 48)) a1
  if inB (gI h13 68 48) 160 = true then
  (let h14 : MH := sI h13 96 (iN (gI h13 68 48)) a2
  if inB (gI h14 68 48) 160 = true then
  (let h15 : MH := sI h14 97 (iN (gI h14 68 48)) a3
  if inB (gI h15 68 48) 160 = true then
  (let h16 : MH := sI h15 98 (iN (gI h15 68 48)) a4
  if inB (gI h16 68 48) 160 = true then
  (let h17 : MH := sI h16 99 (iN (gI h16 68 48)) a5
  let h18 : MH := sI h17 68 48 ((gI h17 68 48) + 1)
  (f_M_is N 0 h18).bind (fun x19 =>
  match narOK 1 x19.1 with
  | true => some (x19.1, x19.2)
  | false => none))
  else none)
  else none)
  else none)
  else none)
  else none)
  else
  ((f_M_is N 5 x9.2).bind (fun x20 =>
  match narOK 1 x20.1 with
  | true => some (x20.1, x20.2)
  | false => none)))))))))))))
def C_M_row (N : Nat) : MC := (KDL, false, (fun _ => 0), jsB, (fun j => match Nat.beq j 167 with
    | true => w_M_is (f_M_is N)
    | false => match Nat.beq j 205 with
    | true => w_M_isMark (f_M_isMark N)
    | false => match Nat.beq j 209 with
    | true => w_M_isYear (f_M_isYear N)
    | false => match Nat.beq j 210 with
    | true => w_M_isDay (f_M_isDay N)
    | false => match Nat.beq j 211 with
    | true => w_M_isPlace (f_M_isPlace N)
    | false => fun _ _ => none), (fun _ _ _ => none), (fun _ _ _ => none), (fun _ _ _ => none))
def D_M_row (N : Nat) (n pc : Nat) (lv : ML) (st : List MV) (h : MH) : Option (Int32 × MH) :=
  match Nat.beq pc 0 with
  | true => (match lk lv 0, lk lv 1, lk lv 2, lk lv 3, lk lv 4, lk lv 5, st with
    | some (.inr (.inr (0, 12, 68))), some (.inl a1), some (.inl a2), some (.inl a3), some (.inl a4), some (.inl a5), [] => f_M_row N a1 a2 a3 a4 a5 h
    | _, _, _, _, _, _, _ => none)
  | false => none
set_option maxRecDepth 1000000 in
theorem E_M_row_0 (N : Nat) (n : Nat) (a1 : Int32) (a2 : Int32) (a3 : Int32) (a4 : Int32) (a5 : Int32) (h : MH) : seg (C_M_row N) 6 1 rI T_M_row [0] (fun q lv st h => match Nat.ble 1 q with
    | true => D_M_row N n q lv st h
    | false => none) 400 true 0 [(0, .inr (.inr (0, 12, 68))), (1, .inl a1), (2, .inl a2), (3, .inl a3), (4, .inl a4), (5, .inl a5)] [] h = f_M_row N a1 a2 a3 a4 a5 h := (rfl)
def T_M_offset : List (List (Option RW)) := [
  [some (.aload_n 0, 1, [0], 0, 0), some (.iload_n 1, 1, [1], 0, 0), some (.invokevirtual 366, 3, [0, 205, 2, 0], 0, 0), none, none, some (.ifCond .eq 17, 3, [22], 0, 0), none, none, some (.iload_n 2, 1, [2], 0, 0), some (.invokestatic 369, 3, [2, 209, 1, 0], 0, 0), none, none, some (.ifCond .eq 10, 3, [22], 0, 0), none, none, some (.iload_n 3, 1, [3], 0, 0), some (.invokestatic 372, 3, [2, 211, 1, 0], 0, 0), none, none, some (.ifCond .ne 9, 3, [28], 0, 0), none, none, some (.aload_n 0, 1, [0], 0, 0), some (.iconst 1, 1, [], 1, 0), some (.invokevirtual 188, 3, [0, 167, 2, 0], 0, 0), none, none, some (.ireturn, 1, [], 0, 0), some (.aload_n 0, 1, [0], 0, 0), some (.getfield 357, 3, [12, 49, 0], 0, 0), none, none],
  [some (.bipush 20, 2, [], 20, 0), none, some (.if_icmp .ne 9, 3, [43], 0, 0), none, none, some (.aload_n 0, 1, [0], 0, 0), some (.iconst 4, 1, [], 4, 0), some (.invokevirtual 188, 3, [0, 167, 2, 0], 0, 0), none, none, some (.ireturn, 1, [], 0, 0), some (.aload_n 0, 1, [0], 0, 0), some (.getfield 120, 3, [12, 57, 2, 1, 20, 32], 0, 0), none, none, some (.aload_n 0, 1, [0], 0, 0), some (.getfield 357, 3, [12, 49, 0], 0, 0), none, none, some (.iload_n 1, 1, [1], 0, 0), some (.iastore, 1, [], 0, 0), some (.aload_n 0, 1, [0], 0, 0), some (.getfield 123, 3, [12, 58, 2, 1, 20, 33], 0, 0), none, none, some (.aload_n 0, 1, [0], 0, 0), some (.getfield 357, 3, [12, 49, 0], 0, 0), none, none, some (.iload_n 2, 1, [2], 0, 0), some (.iastore, 1, [], 0, 0), some (.aload_n 0, 1, [0], 0, 0)],
  [some (.getfield 126, 3, [12, 59, 2, 1, 20, 34], 0, 0), none, none, some (.aload_n 0, 1, [0], 0, 0), some (.getfield 357, 3, [12, 49, 0], 0, 0), none, none, some (.iload_n 3, 1, [3], 0, 0), some (.iastore, 1, [], 0, 0), some (.aload_n 0, 1, [0], 0, 0), some (.dup, 1, [], 0, 0), some (.getfield 357, 3, [12, 49, 0], 0, 0), none, none, some (.iconst 1, 1, [], 1, 0), some (.iadd, 1, [], 0, 0), some (.putfield 357, 3, [12, 49, 0], 0, 0), none, none, some (.aload_n 0, 1, [0], 0, 0), some (.iconst 0, 1, [], 0, 0), some (.invokevirtual 188, 3, [0, 167, 2, 0], 0, 0), none, none, some (.ireturn, 1, [], 0, 0)]]
def f_M_offset (N : Nat) (a1 : Int32) (a2 : Int32) (a3 : Int32) (h : MH) : Option (Int32 × MH) :=
  (f_M_isMark N a1 h).bind (fun x1 =>
  if x1.1 = 0 then
  ((f_M_is N 1 x1.2).bind (fun x2 =>
  match narOK 1 x2.1 with
  | true => some (x2.1, x2.2)
  | false => none))
  else
  ((f_M_isYear N a2 x1.2).bind (fun x3 =>
  if x3.1 = 0 then
  ((f_M_is N 1 x3.2).bind (fun x4 =>
  match narOK 1 x4.1 with
  | true => some (x4.1, x4.2)
  | false => none))
  else
  ((f_M_isPlace N a3 x3.2).bind (fun x5 =>
  if x5.1 = 0 then
  ((f_M_is N 1 x5.2).bind (fun x6 =>
  match narOK 1 x6.1 with
  | true => some (x6.1, x6.2)
  | false => none))
  else
  (if (gI x5.2 68 49) = 20 then
  ((f_M_is N 4 x5.2).bind (fun x7 =>
  match narOK 1 x7.1 with
  | true => some (x7.1, x7.2)
  | false => none))
  else
  (if inB (gI x5.2 68 49) 20 = true then
  (let h8 : MH := sI x5.2 100 (iN (gI x5.2 68 49)) a1
  if inB (gI h8 68 49) 20 = true then
  (let h9 : MH := sI h8 101 (iN (gI h8 68 49)) a2
  if inB (gI h9 68 49) 20 = true then
  (let h10 : MH := sI h9 102 (iN (gI h9 68 49)) a3
  let h11 : MH := sI h10 68 49 ((gI h10 68 49) + 1)
  (f_M_is N 0 h11).bind (fun x12 =>
  match narOK 1 x12.1 with
  | true => some (x12.1, x12.2)
  | false => none))
  else none)
  else none)
  else none)))))))
def C_M_offset (N : Nat) : MC := (KDL, false, (fun _ => 0), jsB, (fun j => match Nat.beq j 167 with
    | true => w_M_is (f_M_is N)
    | false => match Nat.beq j 205 with
    | true => w_M_isMark (f_M_isMark N)
    | false => match Nat.beq j 209 with
    | true => w_M_isYear (f_M_isYear N)
    | false => match Nat.beq j 211 with
    | true => w_M_isPlace (f_M_isPlace N)
    | false => fun _ _ => none), (fun _ _ _ => none), (fun _ _ _ => none), (fun _ _ _ => none))
def D_M_offset (N : Nat) (n pc : Nat) (lv : ML) (st : List MV) (h : MH) : Option (Int32 × MH) :=
  match Nat.beq pc 0 with
  | true => (match lk lv 0, lk lv 1, lk lv 2, lk lv 3, st with
    | some (.inr (.inr (0, 12, 68))), some (.inl a1), some (.inl a2), some (.inl a3), [] => f_M_offset N a1 a2 a3 h
    | _, _, _, _, _ => none)
  | false => none
set_option maxRecDepth 1000000 in
theorem E_M_offset_0 (N : Nat) (n : Nat) (a1 : Int32) (a2 : Int32) (a3 : Int32) (h : MH) : seg (C_M_offset N) 4 1 rI T_M_offset [0] (fun q lv st h => match Nat.ble 1 q with
    | true => D_M_offset N n q lv st h
    | false => none) 400 true 0 [(0, .inr (.inr (0, 12, 68))), (1, .inl a1), (2, .inl a2), (3, .inl a3)] [] h = f_M_offset N a1 a2 a3 h := (rfl)
def T_M_asof : List (List (Option RW)) := [
  [some (.iload_n 1, 1, [1], 0, 0), some (.invokestatic 375, 3, [2, 210, 1, 0], 0, 0), none, none, some (.ifCond .ne 9, 3, [13], 0, 0), none, none, some (.aload_n 0, 1, [0], 0, 0), some (.iconst 1, 1, [], 1, 0), some (.invokevirtual 188, 3, [0, 167, 2, 0], 0, 0), none, none, some (.ireturn, 1, [], 0, 0), some (.aload_n 0, 1, [0], 0, 0), some (.iload_n 1, 1, [1], 0, 0), some (.putfield 102, 3, [12, 51, 0], 0, 0), none, none, some (.aload_n 0, 1, [0], 0, 0), some (.iconst 0, 1, [], 0, 0), some (.invokevirtual 188, 3, [0, 167, 2, 0], 0, 0), none, none, some (.ireturn, 1, [], 0, 0)]]
def f_M_asof (N : Nat) (a1 : Int32) (h : MH) : Option (Int32 × MH) :=
  (f_M_isDay N a1 h).bind (fun x1 =>
  if x1.1 = 0 then
  ((f_M_is N 1 x1.2).bind (fun x2 =>
  match narOK 1 x2.1 with
  | true => some (x2.1, x2.2)
  | false => none))
  else
  (let h3 : MH := sI x1.2 68 51 a1
  (f_M_is N 0 h3).bind (fun x4 =>
  match narOK 1 x4.1 with
  | true => some (x4.1, x4.2)
  | false => none)))
def C_M_asof (N : Nat) : MC := (KDL, false, (fun _ => 0), jsB, (fun j => match Nat.beq j 167 with
    | true => w_M_is (f_M_is N)
    | false => match Nat.beq j 210 with
    | true => w_M_isDay (f_M_isDay N)
    | false => fun _ _ => none), (fun _ _ _ => none), (fun _ _ _ => none), (fun _ _ _ => none))
def D_M_asof (N : Nat) (n pc : Nat) (lv : ML) (st : List MV) (h : MH) : Option (Int32 × MH) :=
  match Nat.beq pc 0 with
  | true => (match lk lv 0, lk lv 1, st with
    | some (.inr (.inr (0, 12, 68))), some (.inl a1), [] => f_M_asof N a1 h
    | _, _, _ => none)
  | false => none
set_option maxRecDepth 1000000 in
theorem E_M_asof_0 (N : Nat) (n : Nat) (a1 : Int32) (h : MH) : seg (C_M_asof N) 2 1 rI T_M_asof [0] (fun q lv st h => match Nat.ble 1 q with
    | true => D_M_asof N n q lv st h
    | false => none) 400 true 0 [(0, .inr (.inr (0, 12, 68))), (1, .inl a1)] [] h = f_M_asof N a1 h := (rfl)
def T_M_rowOf : List (List (Option RW)) := [
  [some (.aload_n 0, 1, [0], 0, 0), some (.getfield 354, 3, [12, 48, 0], 0, 0), none, none, some (.iconst 1, 1, [], 1, 0), some (.isub, 1, [], 0, 0), some (.istore_n 3, 1, [3], 0, 0), some (.iload_n 3, 1, [3], 0, 0), some (.ifCond .lt 44, 3, [52], 0, 0), none, none, some (.aload_n 0, 1, [0], 0, 0), some (.getfield 105, 3, [12, 52, 2, 1, 160, 27], 0, 0), none, none, some (.iload_n 3, 1, [3], 0, 0), some (.iaload, 1, [], 0, 0), some (.iload_n 1, 1, [1], 0, 0), some (.if_icmp .ne 28, 3, [46], 0, 0), none, none, some (.aload_n 0, 1, [0], 0, 0), some (.getfield 108, 3, [12, 53, 2, 1, 160, 28], 0, 0), none, none, some (.iload_n 3, 1, [3], 0, 0), some (.iaload, 1, [], 0, 0), some (.iload_n 2, 1, [2], 0, 0), some (.if_icmp .ne 18, 3, [46], 0, 0), none, none, some (.aload_n 0, 1, [0], 0, 0)],
  [some (.getfield 117, 3, [12, 56, 2, 1, 160, 31], 0, 0), none, none, some (.iload_n 3, 1, [3], 0, 0), some (.iaload, 1, [], 0, 0), some (.aload_n 0, 1, [0], 0, 0), some (.getfield 102, 3, [12, 51, 0], 0, 0), none, none, some (.if_icmp .gt 5, 3, [46], 0, 0), none, none, some (.iload_n 3, 1, [3], 0, 0), some (.ireturn, 1, [], 0, 0), some (.iinc 3 (-1), 3, [3], (-1), 0), none, none, some (.goto (-42), 3, [7], 0, 0), none, none, some (.iconst (-1), 1, [], (-1), 0), some (.ireturn, 1, [], 0, 0)]]
def F_M_rowOf_7 (N : Nat) (bk : (Int32 → Int32 → Int32 → MH → Option (Int32 × MH))) (a1 : Int32) (a2 : Int32) (a3 : Int32) (h : MH) : Option (Int32 × MH) :=
  if a3 < 0 then
  (some ((-1), h))
  else
  (if inB a3 160 = true then
  (if (gI h 95 (iN a3)) = a1 then
  (if inB a3 160 = true then
  (if (gI h 96 (iN a3)) = a2 then
  (if inB a3 160 = true then
  (if (gI h 68 51) < (gI h 99 (iN a3)) then
  (let v2 : Int32 := a3 + (-1)
  bk a1 a2 v2 h)
  else
  (some (a3, h)))
  else none)
  else
  (let v3 : Int32 := a3 + (-1)
  bk a1 a2 v3 h))
  else none)
  else
  (let v4 : Int32 := a3 + (-1)
  bk a1 a2 v4 h))
  else none)
def F_M_rowOf_0 (N : Nat) (bk : (Int32 → Int32 → Int32 → MH → Option (Int32 × MH))) (a1 : Int32) (a2 : Int32) (h : MH) : Option (Int32 × MH) :=
  let v1 : Int32 := (gI h 68 48) - 1
  F_M_rowOf_7 N bk a1 a2 v1 h
def L_M_rowOf (N : Nat) : Nat → (Int32 → Int32 → Int32 → MH → Option (Int32 × MH))
  | 0 => fun _ _ _ _ => none
  | n + 1 => F_M_rowOf_7 N (L_M_rowOf N n)
def f_M_rowOf (N : Nat) (a1 : Int32) (a2 : Int32) (h : MH) : Option (Int32 × MH) := F_M_rowOf_0 N (L_M_rowOf N N) a1 a2 h
def C_M_rowOf (N : Nat) : MC := (KDL, false, (fun _ => 0), jsB, (fun _ _ _ => none), (fun _ _ _ => none), (fun _ _ _ => none), (fun _ _ _ => none))
def D_M_rowOf (N : Nat) (n pc : Nat) (lv : ML) (st : List MV) (h : MH) : Option (Int32 × MH) :=
  match Nat.beq pc 0 with
  | true => (match lk lv 0, lk lv 1, lk lv 2, st with
    | some (.inr (.inr (0, 12, 68))), some (.inl a1), some (.inl a2), [] => F_M_rowOf_0 N (L_M_rowOf N n) a1 a2 h
    | _, _, _, _ => none)
  | false => match Nat.beq pc 7 with
  | true => (match lk lv 0, lk lv 1, lk lv 2, lk lv 3, st with
    | some (.inr (.inr (0, 12, 68))), some (.inl a1), some (.inl a2), some (.inl a3), [] => F_M_rowOf_7 N (L_M_rowOf N n) a1 a2 a3 h
    | _, _, _, _, _ => none)
  | false => none
def B_M_rowOf (N : Nat) (n pc : Nat) (lv : ML) (st : List MV) (h : MH) : Option (Int32 × MH) :=
  match Nat.beq pc 7 with
  | true => (match lk lv 0, lk lv 1, lk lv 2, lk lv 3, st with
    | some (.inr (.inr (0, 12, 68))), some (.inl a1), some (.inl a2), some (.inl a3), [] => ((L_M_rowOf N n)) a1 a2 a3 h
    | _, _, _, _, _ => none)
  | false => none
set_option maxRecDepth 1000000 in
theorem E_M_rowOf_0 (N : Nat) (n : Nat) (a1 : Int32) (a2 : Int32) (h : MH) : seg (C_M_rowOf N) 4 0 rI T_M_rowOf [0, 7] (fun q lv st h => match Nat.ble 1 q with
    | true => D_M_rowOf N n q lv st h
    | false => B_M_rowOf N n q lv st h) 400 true 0 [(0, .inr (.inr (0, 12, 68))), (1, .inl a1), (2, .inl a2)] [] h = F_M_rowOf_0 N (L_M_rowOf N n) a1 a2 h := (rfl)
set_option maxRecDepth 1000000 in
theorem E_M_rowOf_7 (N : Nat) (n : Nat) (a1 : Int32) (a2 : Int32) (a3 : Int32) (h : MH) : seg (C_M_rowOf N) 4 0 rI T_M_rowOf [0, 7] (fun q lv st h => match Nat.ble 8 q with
    | true => D_M_rowOf N n q lv st h
    | false => B_M_rowOf N n q lv st h) 400 true 7 [(0, .inr (.inr (0, 12, 68))), (1, .inl a1), (2, .inl a2), (3, .inl a3)] [] h = F_M_rowOf_7 N (L_M_rowOf N n) a1 a2 a3 h := (rfl)
def T_M_valueOf : List (List (Option RW)) := [
  [some (.aload_n 0, 1, [0], 0, 0), some (.getfield 111, 3, [12, 54, 2, 1, 160, 29], 0, 0), none, none, some (.iload_n 1, 1, [1], 0, 0), some (.iaload, 1, [], 0, 0), some (.istore_n 2, 1, [2], 0, 0), some (.iconst 0, 1, [], 0, 0), some (.istore_n 3, 1, [3], 0, 0), some (.iload_n 3, 1, [3], 0, 0), some (.aload_n 0, 1, [0], 0, 0), some (.getfield 357, 3, [12, 49, 0], 0, 0), none, none, some (.if_icmp .ge 48, 3, [62], 0, 0), none, none, some (.aload_n 0, 1, [0], 0, 0), some (.getfield 120, 3, [12, 57, 2, 1, 20, 32], 0, 0), none, none, some (.iload_n 3, 1, [3], 0, 0), some (.iaload, 1, [], 0, 0), some (.aload_n 0, 1, [0], 0, 0), some (.getfield 105, 3, [12, 52, 2, 1, 160, 27], 0, 0), none, none, some (.iload_n 1, 1, [1], 0, 0), some (.iaload, 1, [], 0, 0), some (.if_icmp .ne 27, 3, [56], 0, 0), none, none],
  [some (.aload_n 0, 1, [0], 0, 0), some (.getfield 123, 3, [12, 58, 2, 1, 20, 33], 0, 0), none, none, some (.iload_n 3, 1, [3], 0, 0), some (.iaload, 1, [], 0, 0), some (.aload_n 0, 1, [0], 0, 0), some (.getfield 108, 3, [12, 53, 2, 1, 160, 28], 0, 0), none, none, some (.iload_n 1, 1, [1], 0, 0), some (.iaload, 1, [], 0, 0), some (.if_icmp .gt 12, 3, [56], 0, 0), none, none, some (.iload_n 2, 1, [2], 0, 0), some (.aload_n 0, 1, [0], 0, 0), some (.getfield 126, 3, [12, 59, 2, 1, 20, 34], 0, 0), none, none, some (.iload_n 3, 1, [3], 0, 0), some (.iaload, 1, [], 0, 0), some (.isub, 1, [], 0, 0), some (.istore_n 2, 1, [2], 0, 0), some (.iinc 3 1, 3, [3], 1, 0), none, none, some (.goto (-50), 3, [9], 0, 0), none, none, some (.iload_n 2, 1, [2], 0, 0), some (.ireturn, 1, [], 0, 0)]]
def F_M_valueOf_9 (N : Nat) (bk : (Int32 → Int32 → Int32 → MH → Option (Int32 × MH))) (a1 : Int32) (a2 : Int32) (a3 : Int32) (h : MH) : Option (Int32 × MH) :=
  if (gI h 68 49) ≤ a3 then
  (some (a2, h))
  else
  (if inB a3 20 = true then
  (if inB a1 160 = true then
  (if (gI h 100 (iN a3)) = (gI h 95 (iN a1)) then
  (if inB a3 20 = true then
  (if inB a1 160 = true then
  (if (gI h 96 (iN a1)) < (gI h 101 (iN a3)) then
  (let v2 : Int32 := a3 + 1
  bk a1 a2 v2 h)
  else
  (if inB a3 20 = true then
  (let v3 : Int32 := a2 - (gI h 102 (iN a3))
  let v4 : Int32 := a3 + 1
  bk a1 v3 v4 h)
  else none))
  else none)
  else none)
  else
  (let v5 : Int32 := a3 + 1
  bk a1 a2 v5 h))
  else none)
  else none)
def F_M_valueOf_0 (N : Nat) (bk : (Int32 → Int32 → Int32 → MH → Option (Int32 × MH))) (a1 : Int32) (h : MH) : Option (Int32 × MH) :=
  if inB a1 160 = true then
  (let v1 : Int32 := gI h 97 (iN a1)
  F_M_valueOf_9 N bk a1 v1 0 h)
  else none
def L_M_valueOf (N : Nat) : Nat → (Int32 → Int32 → Int32 → MH → Option (Int32 × MH))
  | 0 => fun _ _ _ _ => none
  | n + 1 => F_M_valueOf_9 N (L_M_valueOf N n)
def f_M_valueOf (N : Nat) (a1 : Int32) (h : MH) : Option (Int32 × MH) := F_M_valueOf_0 N (L_M_valueOf N N) a1 h
def C_M_valueOf (N : Nat) : MC := (KDL, false, (fun _ => 0), jsB, (fun _ _ _ => none), (fun _ _ _ => none), (fun _ _ _ => none), (fun _ _ _ => none))
def D_M_valueOf (N : Nat) (n pc : Nat) (lv : ML) (st : List MV) (h : MH) : Option (Int32 × MH) :=
  match Nat.beq pc 0 with
  | true => (match lk lv 0, lk lv 1, st with
    | some (.inr (.inr (0, 12, 68))), some (.inl a1), [] => F_M_valueOf_0 N (L_M_valueOf N n) a1 h
    | _, _, _ => none)
  | false => match Nat.beq pc 9 with
  | true => (match lk lv 0, lk lv 1, lk lv 2, lk lv 3, st with
    | some (.inr (.inr (0, 12, 68))), some (.inl a1), some (.inl a2), some (.inl a3), [] => F_M_valueOf_9 N (L_M_valueOf N n) a1 a2 a3 h
    | _, _, _, _, _ => none)
  | false => none
def B_M_valueOf (N : Nat) (n pc : Nat) (lv : ML) (st : List MV) (h : MH) : Option (Int32 × MH) :=
  match Nat.beq pc 9 with
  | true => (match lk lv 0, lk lv 1, lk lv 2, lk lv 3, st with
    | some (.inr (.inr (0, 12, 68))), some (.inl a1), some (.inl a2), some (.inl a3), [] => ((L_M_valueOf N n)) a1 a2 a3 h
    | _, _, _, _, _ => none)
  | false => none
set_option maxRecDepth 1000000 in
theorem E_M_valueOf_0 (N : Nat) (n : Nat) (a1 : Int32) (h : MH) : seg (C_M_valueOf N) 4 0 rI T_M_valueOf [0, 9] (fun q lv st h => match Nat.ble 1 q with
    | true => D_M_valueOf N n q lv st h
    | false => B_M_valueOf N n q lv st h) 400 true 0 [(0, .inr (.inr (0, 12, 68))), (1, .inl a1)] [] h = F_M_valueOf_0 N (L_M_valueOf N n) a1 h := (rfl)
set_option maxRecDepth 1000000 in
theorem E_M_valueOf_9 (N : Nat) (n : Nat) (a1 : Int32) (a2 : Int32) (a3 : Int32) (h : MH) : seg (C_M_valueOf N) 4 0 rI T_M_valueOf [0, 9] (fun q lv st h => match Nat.ble 10 q with
    | true => D_M_valueOf N n q lv st h
    | false => B_M_valueOf N n q lv st h) 400 true 9 [(0, .inr (.inr (0, 12, 68))), (1, .inl a1), (2, .inl a2), (3, .inl a3)] [] h = F_M_valueOf_9 N (L_M_valueOf N n) a1 a2 a3 h := (rfl)
def T_M_value : List (List (Option RW)) := [
  [some (.aload_n 0, 1, [0], 0, 0), some (.iload_n 1, 1, [1], 0, 0), some (.invokevirtual 366, 3, [0, 205, 2, 0], 0, 0), none, none, some (.ifCond .eq 19, 3, [24], 0, 0), none, none, some (.iload_n 2, 1, [2], 0, 0), some (.invokestatic 369, 3, [2, 209, 1, 0], 0, 0), none, none, some (.ifCond .eq 12, 3, [24], 0, 0), none, none, some (.iload_n 3, 1, [3], 0, 0), some (.ifCond .lt 8, 3, [24], 0, 0), none, none, some (.iload_n 3, 1, [3], 0, 0), some (.iconst 1, 1, [], 1, 0), some (.if_icmp .le 9, 3, [30], 0, 0), none, none, some (.aload_n 0, 1, [0], 0, 0), some (.iconst 1, 1, [], 1, 0), some (.invokevirtual 342, 3, [0, 168, 2, 0], 0, 0), none, none, some (.ireturn, 1, [], 0, 0), some (.aload_n 0, 1, [0], 0, 0), some (.iload_n 1, 1, [1], 0, 0)],
  [some (.iload_n 2, 1, [2], 0, 0), some (.invokevirtual 381, 3, [0, 215, 3, 0], 0, 0), none, none, some (.istore 4, 2, [4], 0, 0), none, some (.iload 4, 2, [4], 0, 0), none, some (.iconst (-1), 1, [], (-1), 0), some (.if_icmp .ne 12, 3, [53], 0, 0), none, none, some (.aload_n 0, 1, [0], 0, 0), some (.bipush 6, 2, [], 6, 0), none, some (.invokevirtual 342, 3, [0, 168, 2, 0], 0, 0), none, none, some (.goto 27, 3, [77], 0, 0), none, none, some (.aload_n 0, 1, [0], 0, 0), some (.iload_n 3, 1, [3], 0, 0), some (.ifCond .ne 12, 3, [67], 0, 0), none, none, some (.aload_n 0, 1, [0], 0, 0), some (.iload 4, 2, [4], 0, 0), none, some (.invokevirtual 384, 3, [0, 216, 2, 0], 0, 0), none, none],
  [some (.goto 10, 3, [74], 0, 0), none, none, some (.aload_n 0, 1, [0], 0, 0), some (.getfield 114, 3, [12, 55, 2, 1, 160, 30], 0, 0), none, none, some (.iload 4, 2, [4], 0, 0), none, some (.iaload, 1, [], 0, 0), some (.invokevirtual 180, 3, [0, 169, 2, 0], 0, 0), none, none, some (.ireturn, 1, [], 0, 0)]]
def f_M_value (N : Nat) (a1 : Int32) (a2 : Int32) (a3 : Int32) (h : MH) : Option (Int32 × MH) :=
  (f_M_isMark N a1 h).bind (fun x1 =>
  if x1.1 = 0 then
  ((f_M_refuse N 1 x1.2).bind (fun x2 =>
  some (x2.1, x2.2)))
  else
  ((f_M_isYear N a2 x1.2).bind (fun x3 =>
  if x3.1 = 0 then
  ((f_M_refuse N 1 x3.2).bind (fun x4 =>
  some (x4.1, x4.2)))
  else
  (if a3 < 0 then
  ((f_M_refuse N 1 x3.2).bind (fun x5 =>
  some (x5.1, x5.2)))
  else
  (if a3 ≤ 1 then
  ((f_M_rowOf N a1 a2 x3.2).bind (fun x6 =>
  if x6.1 = ((-1)) then
  ((f_M_refuse N 6 x6.2).bind (fun x7 =>
  some (x7.1, x7.2)))
  else
  (if a3 = 0 then
  ((f_M_valueOf N x6.1 x6.2).bind (fun x8 =>
  (f_M_gives N x8.1 x8.2).bind (fun x9 =>
  some (x9.1, x9.2))))
  else
  (if inB x6.1 160 = true then
  ((f_M_gives N (gI x6.2 98 (iN x6.1)) x6.2).bind (fun x10 =>
  some (x10.1, x10.2)))
  else none))))
  else
  ((f_M_refuse N 1 x3.2).bind (fun x11 =>
  some (x11.1, x11.2))))))))
def C_M_value (N : Nat) : MC := (KDL, false, (fun _ => 0), jsB, (fun j => match Nat.beq j 168 with
    | true => w_M_refuse (f_M_refuse N)
    | false => match Nat.beq j 169 with
    | true => w_M_gives (f_M_gives N)
    | false => match Nat.beq j 205 with
    | true => w_M_isMark (f_M_isMark N)
    | false => match Nat.beq j 209 with
    | true => w_M_isYear (f_M_isYear N)
    | false => match Nat.beq j 215 with
    | true => w_M_rowOf (f_M_rowOf N)
    | false => match Nat.beq j 216 with
    | true => w_M_valueOf (f_M_valueOf N)
    | false => fun _ _ => none), (fun _ _ _ => none), (fun _ _ _ => none), (fun _ _ _ => none))
def D_M_value (N : Nat) (n pc : Nat) (lv : ML) (st : List MV) (h : MH) : Option (Int32 × MH) :=
  match Nat.beq pc 0 with
  | true => (match lk lv 0, lk lv 1, lk lv 2, lk lv 3, st with
    | some (.inr (.inr (0, 12, 68))), some (.inl a1), some (.inl a2), some (.inl a3), [] => f_M_value N a1 a2 a3 h
    | _, _, _, _, _ => none)
  | false => none
set_option maxRecDepth 1000000 in
theorem E_M_value_0 (N : Nat) (n : Nat) (a1 : Int32) (a2 : Int32) (a3 : Int32) (h : MH) : seg (C_M_value N) 5 0 rI T_M_value [0] (fun q lv st h => match Nat.ble 1 q with
    | true => D_M_value N n q lv st h
    | false => none) 400 true 0 [(0, .inr (.inr (0, 12, 68))), (1, .inl a1), (2, .inl a2), (3, .inl a3)] [] h = f_M_value N a1 a2 a3 h := (rfl)
def T_M_fit : List (List (Option RW)) := [
  [some (.aload_n 0, 1, [0], 0, 0), some (.lconst 0, 1, [], 0, 0), some (.putfield 387, 3, [12, 60, 1], 0, 0), none, none, some (.aload_n 0, 1, [0], 0, 0), some (.lconst 0, 1, [], 0, 0), some (.putfield 390, 3, [12, 61, 1], 0, 0), none, none, some (.aload_n 0, 1, [0], 0, 0), some (.lconst 0, 1, [], 0, 0), some (.putfield 393, 3, [12, 62, 1], 0, 0), none, none, some (.aload_n 0, 1, [0], 0, 0), some (.lconst 0, 1, [], 0, 0), some (.putfield 396, 3, [12, 63, 1], 0, 0), none, none, some (.aload_n 0, 1, [0], 0, 0), some (.lconst 0, 1, [], 0, 0), some (.putfield 399, 3, [12, 64, 1], 0, 0), none, none, some (.aload_n 0, 1, [0], 0, 0), some (.lconst 0, 1, [], 0, 0), some (.putfield 402, 3, [12, 65, 1], 0, 0), none, none, some (.iload_n 2, 1, [2], 0, 0), some (.istore 4, 2, [4], 0, 0)],
  [none, some (.iload 4, 2, [4], 0, 0), none, some (.iload_n 3, 1, [3], 0, 0), some (.if_icmp .gt 114, 3, [150], 0, 0), none, none, some (.aload_n 0, 1, [0], 0, 0), some (.iload_n 1, 1, [1], 0, 0), some (.iload 4, 2, [4], 0, 0), none, some (.invokevirtual 381, 3, [0, 215, 3, 0], 0, 0), none, none, some (.istore 5, 2, [5], 0, 0), none, some (.iload 5, 2, [5], 0, 0), none, some (.iconst (-1), 1, [], (-1), 0), some (.if_icmp .ne 6, 3, [57], 0, 0), none, none, some (.goto 90, 3, [144], 0, 0), none, none, some (.aload_n 0, 1, [0], 0, 0), some (.iload 5, 2, [5], 0, 0), none, some (.invokevirtual 384, 3, [0, 216, 2, 0], 0, 0), none, none, some (.i2l, 1, [], 0, 0)],
  [some (.lstore 6, 2, [6], 0, 0), none, some (.aload_n 0, 1, [0], 0, 0), some (.dup, 1, [], 0, 0), some (.getfield 387, 3, [12, 60, 1], 0, 0), none, none, some (.lconst 1, 1, [], 0, 1), some (.ladd, 1, [], 0, 0), some (.putfield 387, 3, [12, 60, 1], 0, 0), none, none, some (.aload_n 0, 1, [0], 0, 0), some (.dup, 1, [], 0, 0), some (.getfield 390, 3, [12, 61, 1], 0, 0), none, none, some (.iload 4, 2, [4], 0, 0), none, some (.i2l, 1, [], 0, 0), some (.ladd, 1, [], 0, 0), some (.putfield 390, 3, [12, 61, 1], 0, 0), none, none, some (.aload_n 0, 1, [0], 0, 0), some (.dup, 1, [], 0, 0), some (.getfield 393, 3, [12, 62, 1], 0, 0), none, none, some (.lload 6, 2, [6], 0, 0), none, some (.ladd, 1, [], 0, 0)],
  [some (.putfield 393, 3, [12, 62, 1], 0, 0), none, none, some (.aload_n 0, 1, [0], 0, 0), some (.dup, 1, [], 0, 0), some (.getfield 396, 3, [12, 63, 1], 0, 0), none, none, some (.iload 4, 2, [4], 0, 0), none, some (.i2l, 1, [], 0, 0), some (.iload 4, 2, [4], 0, 0), none, some (.i2l, 1, [], 0, 0), some (.lmul, 1, [], 0, 0), some (.ladd, 1, [], 0, 0), some (.putfield 396, 3, [12, 63, 1], 0, 0), none, none, some (.aload_n 0, 1, [0], 0, 0), some (.dup, 1, [], 0, 0), some (.getfield 399, 3, [12, 64, 1], 0, 0), none, none, some (.iload 4, 2, [4], 0, 0), none, some (.i2l, 1, [], 0, 0), some (.lload 6, 2, [6], 0, 0), none, some (.lmul, 1, [], 0, 0), some (.ladd, 1, [], 0, 0), some (.putfield 399, 3, [12, 64, 1], 0, 0)],
  [none, none, some (.aload_n 0, 1, [0], 0, 0), some (.dup, 1, [], 0, 0), some (.getfield 402, 3, [12, 65, 1], 0, 0), none, none, some (.lload 6, 2, [6], 0, 0), none, some (.lload 6, 2, [6], 0, 0), none, some (.lmul, 1, [], 0, 0), some (.ladd, 1, [], 0, 0), some (.putfield 402, 3, [12, 65, 1], 0, 0), none, none, some (.iinc 4 1, 3, [4], 1, 0), none, none, some (.goto (-114), 3, [33], 0, 0), none, none, some (.return_, 1, [], 0, 0)]]
def F_M_fit_33 (N : Nat) (bk : (Int32 → Int32 → Int32 → MH → Option (MH))) (a1 : Int32) (a3 : Int32) (a4 : Int32) (h : MH) : Option (MH) :=
  if a3 < a4 then
  (some h)
  else
  ((f_M_rowOf N a1 a4 h).bind (fun x7 =>
  if x7.1 = ((-1)) then
  (let v8 : Int32 := a4 + 1
  bk a1 a3 v8 x7.2)
  else
  ((f_M_valueOf N x7.1 x7.2).bind (fun x9 =>
  let h10 : MH := sJ x9.2 68 60 ((gJ x9.2 68 60) + 1)
  let h11 : MH := sJ h10 68 61 ((gJ h10 68 61) + a4.toInt64)
  let h12 : MH := sJ h11 68 62 ((gJ h11 68 62) + x9.1.toInt64)
  let h13 : MH := sJ h12 68 63 ((gJ h12 68 63) + (a4.toInt64 * a4.toInt64))
  let h14 : MH := sJ h13 68 64 ((gJ h13 68 64) + (a4.toInt64 * x9.1.toInt64))
  let h15 : MH := sJ h14 68 65 ((gJ h14 68 65) + (x9.1.toInt64 * x9.1.toInt64))
  let v16 : Int32 := a4 + 1
  bk a1 a3 v16 h15))))
def F_M_fit_0 (N : Nat) (bk : (Int32 → Int32 → Int32 → MH → Option (MH))) (a1 : Int32) (a2 : Int32) (a3 : Int32) (h : MH) : Option (MH) :=
  let h1 : MH := sJ h 68 60 0
  let h2 : MH := sJ h1 68 61 0
  let h3 : MH := sJ h2 68 62 0
  let h4 : MH := sJ h3 68 63 0
  let h5 : MH := sJ h4 68 64 0
  let h6 : MH := sJ h5 68 65 0
  F_M_fit_33 N bk a1 a3 a2 h6
def L_M_fit (N : Nat) : Nat → (Int32 → Int32 → Int32 → MH → Option (MH))
  | 0 => fun _ _ _ _ => none
  | n + 1 => F_M_fit_33 N (L_M_fit N n)
def f_M_fit (N : Nat) (a1 : Int32) (a2 : Int32) (a3 : Int32) (h : MH) : Option (MH) := F_M_fit_0 N (L_M_fit N N) a1 a2 a3 h
def C_M_fit (N : Nat) : MC := (KDL, false, (fun _ => 0), jsB, (fun j => match Nat.beq j 215 with
    | true => w_M_rowOf (f_M_rowOf N)
    | false => match Nat.beq j 216 with
    | true => w_M_valueOf (f_M_valueOf N)
    | false => fun _ _ => none), (fun _ _ _ => none), (fun _ _ _ => none), (fun _ _ _ => none))
def D_M_fit (N : Nat) (n pc : Nat) (lv : ML) (st : List MV) (h : MH) : Option (MH) :=
  match Nat.beq pc 0 with
  | true => (match lk lv 0, lk lv 1, lk lv 2, lk lv 3, st with
    | some (.inr (.inr (0, 12, 68))), some (.inl a1), some (.inl a2), some (.inl a3), [] => F_M_fit_0 N (L_M_fit N n) a1 a2 a3 h
    | _, _, _, _, _ => none)
  | false => match Nat.beq pc 33 with
  | true => (match lk lv 0, lk lv 1, lk lv 3, lk lv 4, st with
    | some (.inr (.inr (0, 12, 68))), some (.inl a1), some (.inl a3), some (.inl a4), [] => F_M_fit_33 N (L_M_fit N n) a1 a3 a4 h
    | _, _, _, _, _ => none)
  | false => none
def B_M_fit (N : Nat) (n pc : Nat) (lv : ML) (st : List MV) (h : MH) : Option (MH) :=
  match Nat.beq pc 33 with
  | true => (match lk lv 0, lk lv 1, lk lv 3, lk lv 4, st with
    | some (.inr (.inr (0, 12, 68))), some (.inl a1), some (.inl a3), some (.inl a4), [] => ((L_M_fit N n)) a1 a3 a4 h
    | _, _, _, _, _ => none)
  | false => none
set_option maxRecDepth 1000000 in
theorem E_M_fit_0 (N : Nat) (n : Nat) (a1 : Int32) (a2 : Int32) (a3 : Int32) (h : MH) : seg (C_M_fit N) 8 0 rV T_M_fit [0, 33] (fun q lv st h => match Nat.ble 1 q with
    | true => D_M_fit N n q lv st h
    | false => B_M_fit N n q lv st h) 400 true 0 [(0, .inr (.inr (0, 12, 68))), (1, .inl a1), (2, .inl a2), (3, .inl a3)] [] h = F_M_fit_0 N (L_M_fit N n) a1 a2 a3 h := (rfl)
set_option maxRecDepth 1000000 in
theorem E_M_fit_33 (N : Nat) (n : Nat) (a1 : Int32) (a3 : Int32) (a4 : Int32) (h : MH) : seg (C_M_fit N) 8 0 rV T_M_fit [0, 33] (fun q lv st h => match Nat.ble 34 q with
    | true => D_M_fit N n q lv st h
    | false => B_M_fit N n q lv st h) 400 true 33 [(0, .inr (.inr (0, 12, 68))), (1, .inl a1), (3, .inl a3), (4, .inl a4)] [] h = F_M_fit_33 N (L_M_fit N n) a1 a3 a4 h := (rfl)
def T_M_steep : List (List (Option RW)) := [
  [some (.aload_n 0, 1, [0], 0, 0), some (.getfield 387, 3, [12, 60, 1], 0, 0), none, none, some (.aload_n 0, 1, [0], 0, 0), some (.getfield 399, 3, [12, 64, 1], 0, 0), none, none, some (.lmul, 1, [], 0, 0), some (.aload_n 0, 1, [0], 0, 0), some (.getfield 390, 3, [12, 61, 1], 0, 0), none, none, some (.aload_n 0, 1, [0], 0, 0), some (.getfield 393, 3, [12, 62, 1], 0, 0), none, none, some (.lmul, 1, [], 0, 0), some (.lsub, 1, [], 0, 0), some (.lreturn, 1, [], 0, 0)]]
def f_M_steep (N : Nat) (h : MH) : Option (Int64 × MH) :=
  some (((gJ h 68 60) * (gJ h 68 64)) - ((gJ h 68 61) * (gJ h 68 62)), h)
def C_M_steep (N : Nat) : MC := (KDL, false, (fun _ => 0), jsB, (fun _ _ _ => none), (fun _ _ _ => none), (fun _ _ _ => none), (fun _ _ _ => none))
def D_M_steep (N : Nat) (n pc : Nat) (lv : ML) (st : List MV) (h : MH) : Option (Int64 × MH) :=
  match Nat.beq pc 0 with
  | true => (match lk lv 0, st with
    | some (.inr (.inr (0, 12, 68))), [] => f_M_steep N h
    | _, _ => none)
  | false => none
set_option maxRecDepth 1000000 in
theorem E_M_steep_0 (N : Nat) (n : Nat) (h : MH) : seg (C_M_steep N) 1 0 rJ T_M_steep [0] (fun q lv st h => match Nat.ble 1 q with
    | true => D_M_steep N n q lv st h
    | false => none) 400 true 0 [(0, .inr (.inr (0, 12, 68)))] [] h = f_M_steep N h := (rfl)
