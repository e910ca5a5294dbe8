def T_Ranks_of : List (List (Option RW)) := [
  [some (.aload_n 0, 1, [0], 0, 0), some (.aload_n 1, 1, [1], 0, 0), some (.iload_n 2, 1, [2], 0, 0), some (.iload_n 3, 1, [3], 0, 0), some (.invokevirtual 15, 3, [0, 47, 4, 0], 0, 0), none, none, some (.istore 4, 2, [4], 0, 0), none, some (.lconst 1, 1, [], 0, 1), some (.lstore 5, 2, [5], 0, 0), none, some (.iconst 0, 1, [], 0, 0), some (.istore 7, 2, [7], 0, 0), none, some (.iconst 0, 1, [], 0, 0), some (.istore 8, 2, [8], 0, 0), none, some (.iload 8, 2, [8], 0, 0), none, some (.bipush 6, 2, [], 6, 0), none, some (.if_icmp .ge 93, 3, [115], 0, 0), none, none, some (.iload 7, 2, [7], 0, 0), none, some (.iload 4, 2, [4], 0, 0), none, some (.if_icmp .ge 86, 3, [115], 0, 0), none, none],
  [some (.aload_n 0, 1, [0], 0, 0), some (.iload 8, 2, [8], 0, 0), none, some (.iload 7, 2, [7], 0, 0), none, some (.iload 4, 2, [4], 0, 0), none, some (.invokevirtual 19, 3, [0, 48, 4, 0], 0, 0), none, none, some (.istore 9, 2, [9], 0, 0), none, some (.iload 9, 2, [9], 0, 0), none, some (.ifCond .ge 6, 3, [52], 0, 0), none, none, some (.goto 60, 3, [109], 0, 0), none, none, some (.aload_n 0, 1, [0], 0, 0), some (.iload 7, 2, [7], 0, 0), none, some (.iload 9, 2, [9], 0, 0), none, some (.invokevirtual 23, 3, [0, 49, 3, 3], 0, 0), none, none, some (.iload 7, 2, [7], 0, 0), none, some (.iconst 1, 1, [], 1, 0), some (.iadd, 1, [], 0, 0)],
  [some (.istore 10, 2, [10], 0, 0), none, some (.iload 10, 2, [10], 0, 0), none, some (.iload 4, 2, [4], 0, 0), none, some (.if_icmp .ge 21, 3, [91], 0, 0), none, none, some (.aload_n 0, 1, [0], 0, 0), some (.iload 7, 2, [7], 0, 0), none, some (.iload 10, 2, [10], 0, 0), none, some (.iload 8, 2, [8], 0, 0), none, some (.lload 5, 2, [5], 0, 0), none, some (.invokevirtual 27, 3, [0, 50, 5, 3], 0, 0), none, none, some (.iinc 10 1, 3, [10], 1, 0), none, none, some (.goto (-22), 3, [66], 0, 0), none, none, some (.aload_n 0, 1, [0], 0, 0), some (.getfield 9, 3, [6, 0, 2, 2, 48, 1], 0, 0), none, none, some (.iload 7, 2, [7], 0, 0)],
  [none, some (.bipush 6, 2, [], 6, 0), none, some (.imul, 1, [], 0, 0), some (.iload 8, 2, [8], 0, 0), none, some (.iadd, 1, [], 0, 0), some (.laload, 1, [], 0, 0), some (.lstore 5, 2, [5], 0, 0), none, some (.iinc 7 1, 3, [7], 1, 0), none, none, some (.iinc 8 1, 3, [8], 1, 0), none, none, some (.goto (-94), 3, [18], 0, 0), none, none, some (.iload 7, 2, [7], 0, 0), none, some (.ireturn, 1, [], 0, 0)]]
def F_Ranks_of_66 (N : Nat) (bk : (Int32 → Int64 → Int32 → Int32 → MH → Option (Int32 × MH)) × (Int32 → Int64 → Int32 → Int32 → Int32 → MH → Option (Int32 × MH))) (a4 : Int32) (a5 : Int64) (a7 : Int32) (a8 : Int32) (a10 : Int32) (h : MH) : Option (Int32 × MH) :=
  if a4 ≤ a10 then
  (if inB ((a7 * 6) + a8) 48 = true then
  (let v6 : Int64 := gJ h 49 (iN ((a7 * 6) + a8))
  let v7 : Int32 := a7 + 1
  let v8 : Int32 := a8 + 1
  (bk.1) a4 v6 v7 v8 h)
  else none)
  else
  ((f_Ranks_eliminate N a7 a10 a8 a5 h).bind (fun x9 =>
  let v10 : Int32 := a10 + 1
  (bk.2) a4 a5 a7 a8 v10 x9))
def F_Ranks_of_18 (N : Nat) (bk : (Int32 → Int64 → Int32 → Int32 → MH → Option (Int32 × MH)) × (Int32 → Int64 → Int32 → Int32 → Int32 → MH → Option (Int32 × MH))) (a4 : Int32) (a5 : Int64) (a7 : Int32) (a8 : Int32) (h : MH) : Option (Int32 × MH) :=
  if 6 ≤ a8 then
  (some (a7, h))
  else
  (if a4 ≤ a7 then
  (some (a7, h))
  else
  ((f_Ranks_rowWithout0 N a8 a7 a4 h).bind (fun x2 =>
  if 0 ≤ x2.1 then
  ((f_Ranks_swapRows N a7 x2.1 x2.2).bind (fun x3 =>
  let v4 : Int32 := a7 + 1
  F_Ranks_of_66 N bk a4 a5 a7 a8 v4 x3))
  else
  (let v5 : Int32 := a8 + 1
  (bk.1) a4 a5 a7 v5 x2.2))))
def F_Ranks_of_0 (N : Nat) (bk : (Int32 → Int64 → Int32 → Int32 → MH → Option (Int32 × MH)) × (Int32 → Int64 → Int32 → Int32 → Int32 → MH → Option (Int32 × MH))) (r1 : Nat) (a2 : Int32) (a3 : Int32) (h : MH) : Option (Int32 × MH) :=
  (f_Ranks_fill N r1 a2 a3 h).bind (fun x1 =>
  F_Ranks_of_18 N bk x1.1 1 0 0 x1.2)
def L_Ranks_of (N : Nat) : Nat → ((Int32 → Int64 → Int32 → Int32 → MH → Option (Int32 × MH)) × (Int32 → Int64 → Int32 → Int32 → Int32 → MH → Option (Int32 × MH)))
  | 0 => (fun _ _ _ _ _ => none, fun _ _ _ _ _ _ => none)
  | n + 1 => (F_Ranks_of_18 N (L_Ranks_of N n), F_Ranks_of_66 N (L_Ranks_of N n))
def f_Ranks_of (N : Nat) (r1 : Nat) (a2 : Int32) (a3 : Int32) (h : MH) : Option (Int32 × MH) := F_Ranks_of_0 N (L_Ranks_of N N) r1 a2 a3 h
def C_Ranks_of (N : Nat) : MC := (KDL, false, (fun _ => 0), jsB, (fun j => match Nat.beq j 47 with
    | true => w_Ranks_fill (f_Ranks_fill N)
    | false => match Nat.beq j 48 with
    | true => w_Ranks_rowWithout0 (f_Ranks_rowWithout0 N)
    | false => fun _ _ => none), (fun _ _ _ => none), (fun _ _ _ => none), (fun j => match Nat.beq j 49 with
    | true => w_Ranks_swapRows (f_Ranks_swapRows N)
    | false => match Nat.beq j 50 with
    | true => w_Ranks_eliminate (f_Ranks_eliminate N)
    | false => fun _ _ => none))
def D_Ranks_of (N : Nat) (n pc : Nat) (lv : ML) (st : List MV) (h : MH) : Option (Int32 × MH) :=
  match Nat.beq pc 0 with
  | true => (match lk lv 0, lk lv 1, lk lv 2, lk lv 3, st with
    | some (.inr (.inr (0, 6, 48))), some (.inr (.inr (0, 2, r1))), some (.inl a2), some (.inl a3), [] => F_Ranks_of_0 N (L_Ranks_of N n) r1 a2 a3 h
    | _, _, _, _, _ => none)
  | false => match Nat.beq pc 18 with
  | true => (match lk lv 0, lk lv 4, lk lv 5, lk lv 7, lk lv 8, st with
    | some (.inr (.inr (0, 6, 48))), some (.inl a4), some (.inr (.inl a5)), some (.inl a7), some (.inl a8), [] => F_Ranks_of_18 N (L_Ranks_of N n) a4 a5 a7 a8 h
    | _, _, _, _, _, _ => none)
  | false => match Nat.beq pc 66 with
  | true => (match lk lv 0, lk lv 4, lk lv 5, lk lv 7, lk lv 8, lk lv 10, st with
    | some (.inr (.inr (0, 6, 48))), some (.inl a4), some (.inr (.inl a5)), some (.inl a7), some (.inl a8), some (.inl a10), [] => F_Ranks_of_66 N (L_Ranks_of N n) a4 a5 a7 a8 a10 h
    | _, _, _, _, _, _, _ => none)
  | false => none
def B_Ranks_of (N : Nat) (n pc : Nat) (lv : ML) (st : List MV) (h : MH) : Option (Int32 × MH) :=
  match Nat.beq pc 18 with
  | true => (match lk lv 0, lk lv 4, lk lv 5, lk lv 7, lk lv 8, st with
    | some (.inr (.inr (0, 6, 48))), some (.inl a4), some (.inr (.inl a5)), some (.inl a7), some (.inl a8), [] => ((L_Ranks_of N n).1) a4 a5 a7 a8 h
    | _, _, _, _, _, _ => none)
  | false => match Nat.beq pc 66 with
  | true => (match lk lv 0, lk lv 4, lk lv 5, lk lv 7, lk lv 8, lk lv 10, st with
    | some (.inr (.inr (0, 6, 48))), some (.inl a4), some (.inr (.inl a5)), some (.inl a7), some (.inl a8), some (.inl a10), [] => ((L_Ranks_of N n).2) a4 a5 a7 a8 a10 h
    | _, _, _, _, _, _, _ => none)
  | false => none
set_option maxRecDepth 1000000 in
theorem E_Ranks_of_0 (N : Nat) (n : Nat) (r1 : Nat) (a2 : Int32) (a3 : Int32) (h : MH) : seg (C_Ranks_of N) 11 0 rI T_Ranks_of [0, 18, 66] (fun q lv st h => match Nat.ble 1 q with
    | true => D_Ranks_of N n q lv st h
    | false => B_Ranks_of N n q lv st h) 400 true 0 [(0, .inr (.inr (0, 6, 48))), (1, .inr (.inr (0, 2, r1))), (2, .inl a2), (3, .inl a3)] [] h = F_Ranks_of_0 N (L_Ranks_of N n) r1 a2 a3 h := (rfl)
set_option maxRecDepth 1000000 in
theorem E_Ranks_of_18 (N : Nat) (n : Nat) (a4 : Int32) (a5 : Int64) (a7 : Int32) (a8 : Int32) (h : MH) : seg (C_Ranks_of N) 11 0 rI T_Ranks_of [0, 18, 66] (fun q lv st h => match Nat.ble 19 q with
    | true => D_Ranks_of N n q lv st h
    | false => B_Ranks_of N n q lv st h) 400 true 18 [(0, .inr (.inr (0, 6, 48))), (4, .inl a4), (5, .inr (.inl a5)), (7, .inl a7), (8, .inl a8)] [] h = F_Ranks_of_18 N (L_Ranks_of N n) a4 a5 a7 a8 h := (rfl)
set_option maxRecDepth 1000000 in
theorem E_Ranks_of_66 (N : Nat) (n : Nat) (a4 : Int32) (a5 : Int64) (a7 : Int32) (a8 : Int32) (a10 : Int32) (h : MH) : seg (C_Ranks_of N) 11 0 rI T_Ranks_of [0, 18, 66] (fun q lv st h => match Nat.ble 67 q with
    | true => D_Ranks_of N n q lv st h
    | false => B_Ranks_of N n q lv st h) 400 true 66 [(0, .inr (.inr (0, 6, 48))), (4, .inl a4), (5, .inr (.inl a5)), (7, .inl a7), (8, .inl a8), (10, .inl a10)] [] h = F_Ranks_of_66 N (L_Ranks_of N n) a4 a5 a7 a8 a10 h := (rfl)
def T_Reader_hasRoom : List (List (Option RW)) := [
  [some (.aload_n 0, 1, [0], 0, 0), some (.getfield 15, 3, [7, 1, 0], 0, 0), none, none, some (.sipush 580, 3, [], 580, 0), none, none, some (.if_icmp .gt 7, 3, [14], 0, 0), none, none, some (.iconst 1, 1, [], 1, 0), some (.goto 4, 3, [15], 0, 0), none, none, some (.iconst 0, 1, [], 0, 0), some (.ireturn, 1, [], 0, 0)]]
def f_Reader_hasRoom (N : Nat) (h : MH) : Option (Int32 × MH) :=
  if 580 < (gI h 3 1) then
  (some (0, h))
  else
  (some (1, h))
def C_Reader_hasRoom (N : Nat) : MC := (KDL, false, (fun _ => 0), jsB, (fun _ _ _ => none), (fun _ _ _ => none), (fun _ _ _ => none), (fun _ _ _ => none))
def D_Reader_hasRoom (N : Nat) (n pc : Nat) (lv : ML) (st : List MV) (h : MH) : Option (Int32 × MH) :=
  match Nat.beq pc 0 with
  | true => (match lk lv 0, st with
    | some (.inr (.inr (0, 7, 3))), [] => f_Reader_hasRoom N h
    | _, _ => none)
  | false => none
set_option maxRecDepth 1000000 in
theorem E_Reader_hasRoom_0 (N : Nat) (n : Nat) (h : MH) : seg (C_Reader_hasRoom N) 1 1 rI T_Reader_hasRoom [0] (fun q lv st h => match Nat.ble 1 q with
    | true => D_Reader_hasRoom N n q lv st h
    | false => none) 400 true 0 [(0, .inr (.inr (0, 7, 3)))] [] h = f_Reader_hasRoom N h := (rfl)
def T_Reader_append : List (List (Option RW)) := [
  [some (.bipush 24, 2, [], 24, 0), none, some (.istore_n 2, 1, [2], 0, 0), some (.iload_n 2, 1, [2], 0, 0), some (.ifCond .lt 42, 3, [46], 0, 0), none, none, some (.aload_n 0, 1, [0], 0, 0), some (.getfield 15, 3, [7, 1, 0], 0, 0), none, none, some (.sipush 600, 3, [], 600, 0), none, none, some (.if_icmp .ge 32, 3, [46], 0, 0), none, none, some (.aload_n 0, 1, [0], 0, 0), some (.getfield 9, 3, [7, 0, 2, 3, 600, 1], 0, 0), none, none, some (.aload_n 0, 1, [0], 0, 0), some (.getfield 15, 3, [7, 1, 0], 0, 0), none, none, some (.iload_n 1, 1, [1], 0, 0), some (.iload_n 2, 1, [2], 0, 0), some (.ishr, 1, [], 0, 0), some (.i2b, 1, [], 0, 0), some (.bastore, 1, [], 0, 0), some (.aload_n 0, 1, [0], 0, 0), some (.dup, 1, [], 0, 0)],
  [some (.getfield 15, 3, [7, 1, 0], 0, 0), none, none, some (.iconst 1, 1, [], 1, 0), some (.iadd, 1, [], 0, 0), some (.putfield 15, 3, [7, 1, 0], 0, 0), none, none, some (.iinc 2 (-8), 3, [2], (-8), 0), none, none, some (.goto (-40), 3, [3], 0, 0), none, none, some (.return_, 1, [], 0, 0)]]
def F_Reader_append_3 (N : Nat) (bk : (Int32 → Int32 → MH → Option (MH))) (a1 : Int32) (a2 : Int32) (h : MH) : Option (MH) :=
  if a2 < 0 then
  (some h)
  else
  (if 600 ≤ (gI h 3 1) then
  (some h)
  else
  (if inB (gI h 3 1) 600 = true then
  (let h1 : MH := sI h 4 (iN (gI h 3 1)) (((a1 >>> (a2 &&& 31))).toInt8.toInt32).toInt8.toInt32
  let h2 : MH := sI h1 3 1 ((gI h1 3 1) + 1)
  let v3 : Int32 := a2 + (-8)
  bk a1 v3 h2)
  else none))
def F_Reader_append_0 (N : Nat) (bk : (Int32 → Int32 → MH → Option (MH))) (a1 : Int32) (h : MH) : Option (MH) :=
  F_Reader_append_3 N bk a1 24 h
def L_Reader_append (N : Nat) : Nat → (Int32 → Int32 → MH → Option (MH))
  | 0 => fun _ _ _ => none
  | n + 1 => F_Reader_append_3 N (L_Reader_append N n)
def f_Reader_append (N : Nat) (a1 : Int32) (h : MH) : Option (MH) := F_Reader_append_0 N (L_Reader_append N N) a1 h
def C_Reader_append (N : Nat) : MC := (KDL, false, (fun _ => 0), jsB, (fun _ _ _ => none), (fun _ _ _ => none), (fun _ _ _ => none), (fun _ _ _ => none))
def D_Reader_append (N : Nat) (n pc : Nat) (lv : ML) (st : List MV) (h : MH) : Option (MH) :=
  match Nat.beq pc 0 with
  | true => (match lk lv 0, lk lv 1, st with
    | some (.inr (.inr (0, 7, 3))), some (.inl a1), [] => F_Reader_append_0 N (L_Reader_append N n) a1 h
    | _, _, _ => none)
  | false => match Nat.beq pc 3 with
  | true => (match lk lv 0, lk lv 1, lk lv 2, st with
    | some (.inr (.inr (0, 7, 3))), some (.inl a1), some (.inl a2), [] => F_Reader_append_3 N (L_Reader_append N n) a1 a2 h
    | _, _, _, _ => none)
  | false => none
def B_Reader_append (N : Nat) (n pc : Nat) (lv : ML) (st : List MV) (h : MH) : Option (MH) :=
  match Nat.beq pc 3 with
  | true => (match lk lv 0, lk lv 1, lk lv 2, st with
    | some (.inr (.inr (0, 7, 3))), some (.inl a1), some (.inl a2), [] => ((L_Reader_append N n)) a1 a2 h
    | _, _, _, _ => none)
  | false => none
set_option maxRecDepth 1000000 in
theorem E_Reader_append_0 (N : Nat) (n : Nat) (a1 : Int32) (h : MH) : seg (C_Reader_append N) 3 0 rV T_Reader_append [0, 3] (fun q lv st h => match Nat.ble 1 q with
    | true => D_Reader_append N n q lv st h
    | false => B_Reader_append N n q lv st h) 400 true 0 [(0, .inr (.inr (0, 7, 3))), (1, .inl a1)] [] h = F_Reader_append_0 N (L_Reader_append N n) a1 h := (rfl)
set_option maxRecDepth 1000000 in
theorem E_Reader_append_3 (N : Nat) (n : Nat) (a1 : Int32) (a2 : Int32) (h : MH) : seg (C_Reader_append N) 3 0 rV T_Reader_append [0, 3] (fun q lv st h => match Nat.ble 4 q with
    | true => D_Reader_append N n q lv st h
    | false => B_Reader_append N n q lv st h) 400 true 3 [(0, .inr (.inr (0, 7, 3))), (1, .inl a1), (2, .inl a2)] [] h = F_Reader_append_3 N (L_Reader_append N n) a1 a2 h := (rfl)
def T_Reader_trade : List (List (Option RW)) := [
  [some (.aload_n 0, 1, [0], 0, 0), some (.getfield 43, 3, [7, 9, 3, 0, 2], 0, 0), none, none, some (.astore_n 2, 1, [2], 0, 0), some (.aload_n 0, 1, [0], 0, 0), some (.aload_n 1, 1, [1], 0, 0), some (.putfield 43, 3, [7, 9, 3, 0, 2], 0, 0), none, none, some (.aload_n 2, 1, [2], 0, 0), some (.areturn, 1, [], 0, 0)]]
def f_Reader_trade (N : Nat) (r1 : Nat) (h : MH) : Option (Nat × MH) :=
  let h1 : MH := sR h 3 9 r1
  some (gR h 3 9, h1)
def C_Reader_trade (N : Nat) : MC := (KDL, false, (fun _ => 0), jsB, (fun _ _ _ => none), (fun _ _ _ => none), (fun _ _ _ => none), (fun _ _ _ => none))
def D_Reader_trade (N : Nat) (n pc : Nat) (lv : ML) (st : List MV) (h : MH) : Option (Nat × MH) :=
  match Nat.beq pc 0 with
  | true => (match lk lv 0, lk lv 1, st with
    | some (.inr (.inr (0, 7, 3))), some (.inr (.inr (0, 2, r1))), [] => f_Reader_trade N r1 h
    | _, _, _ => none)
  | false => none
set_option maxRecDepth 1000000 in
theorem E_Reader_trade_0 (N : Nat) (n : Nat) (r1 : Nat) (h : MH) : seg (C_Reader_trade N) 3 0 rR T_Reader_trade [0] (fun q lv st h => match Nat.ble 1 q with
    | true => D_Reader_trade N n q lv st h
    | false => none) 400 true 0 [(0, .inr (.inr (0, 7, 3))), (1, .inr (.inr (0, 2, r1)))] [] h = f_Reader_trade N r1 h := (rfl)
def T_Reader_fail : List (List (Option RW)) := [
  [some (.aload_n 0, 1, [0], 0, 0), some (.getfield 34, 3, [7, 7, 0], 0, 0), none, none, some (.ifCond .ne 13, 3, [17], 0, 0), none, none, some (.aload_n 0, 1, [0], 0, 0), some (.iload_n 1, 1, [1], 0, 0), some (.putfield 34, 3, [7, 7, 0], 0, 0), none, none, some (.aload_n 0, 1, [0], 0, 0), some (.iload_n 2, 1, [2], 0, 0), some (.putfield 37, 3, [7, 8, 0], 0, 0), none, none, some (.iconst 0, 1, [], 0, 0), some (.ireturn, 1, [], 0, 0)]]
def f_Reader_fail (N : Nat) (a1 : Int32) (a2 : Int32) (h : MH) : Option (Int32 × MH) :=
  if (gI h 3 7) = 0 then
  (let h1 : MH := sI h 3 7 a1
  let h2 : MH := sI h1 3 8 a2
  some (0, h2))
  else
  (some (0, h))
def C_Reader_fail (N : Nat) : MC := (KDL, false, (fun _ => 0), jsB, (fun _ _ _ => none), (fun _ _ _ => none), (fun _ _ _ => none), (fun _ _ _ => none))
def D_Reader_fail (N : Nat) (n pc : Nat) (lv : ML) (st : List MV) (h : MH) : Option (Int32 × MH) :=
  match Nat.beq pc 0 with
  | true => (match lk lv 0, lk lv 1, lk lv 2, st with
    | some (.inr (.inr (0, 7, 3))), some (.inl a1), some (.inl a2), [] => f_Reader_fail N a1 a2 h
    | _, _, _, _ => none)
  | false => none
set_option maxRecDepth 1000000 in
theorem E_Reader_fail_0 (N : Nat) (n : Nat) (a1 : Int32) (a2 : Int32) (h : MH) : seg (C_Reader_fail N) 3 1 rI T_Reader_fail [0] (fun q lv st h => match Nat.ble 1 q with
    | true => D_Reader_fail N n q lv st h
    | false => none) 400 true 0 [(0, .inr (.inr (0, 7, 3))), (1, .inl a1), (2, .inl a2)] [] h = f_Reader_fail N a1 a2 h := (rfl)
def T_Reader_isDigit : List (List (Option RW)) := [
  [some (.iload_n 0, 1, [0], 0, 0), some (.bipush 48, 2, [], 48, 0), none, some (.if_icmp .lt 13, 3, [16], 0, 0), none, none, some (.iload_n 0, 1, [0], 0, 0), some (.bipush 57, 2, [], 57, 0), none, some (.if_icmp .gt 7, 3, [16], 0, 0), none, none, some (.iconst 1, 1, [], 1, 0), some (.goto 4, 3, [17], 0, 0), none, none, some (.iconst 0, 1, [], 0, 0), some (.ireturn, 1, [], 0, 0)]]
def f_Reader_isDigit (N : Nat) (a0 : Int32) (h : MH) : Option (Int32 × MH) :=
  if a0 < 48 then
  (some (0, h))
  else
  (if 57 < a0 then
  (some (0, h))
  else
  (some (1, h)))
def C_Reader_isDigit (N : Nat) : MC := (KDL, false, (fun _ => 0), jsB, (fun _ _ _ => none), (fun _ _ _ => none), (fun _ _ _ => none), (fun _ _ _ => none))
def D_Reader_isDigit (N : Nat) (n pc : Nat) (lv : ML) (st : List MV) (h : MH) : Option (Int32 × MH) :=
  match Nat.beq pc 0 with
  | true => (match lk lv 0, st with
    | some (.inl a0), [] => f_Reader_isDigit N a0 h
    | _, _ => none)
  | false => none
set_option maxRecDepth 1000000 in
theorem E_Reader_isDigit_0 (N : Nat) (n : Nat) (a0 : Int32) (h : MH) : seg (C_Reader_isDigit N) 1 1 rI T_Reader_isDigit [0] (fun q lv st h => match Nat.ble 1 q with
    | true => D_Reader_isDigit N n q lv st h
    | false => none) 400 true 0 [(0, .inl a0)] [] h = f_Reader_isDigit N a0 h := (rfl)
def T_Reader_scanNumber : List (List (Option RW)) := [
  [some (.aload_n 0, 1, [0], 0, 0), some (.iconst 2, 1, [], 2, 0), some (.putfield 22, 3, [7, 3, 0], 0, 0), none, none, some (.aload_n 0, 1, [0], 0, 0), some (.iconst 0, 1, [], 0, 0), some (.putfield 31, 3, [7, 6, 0], 0, 0), none, none, some (.aload_n 0, 1, [0], 0, 0), some (.getfield 28, 3, [7, 5, 0], 0, 0), none, none, some (.aload_n 0, 1, [0], 0, 0), some (.getfield 19, 3, [7, 2, 0], 0, 0), none, none, some (.if_icmp .ge 68, 3, [86], 0, 0), none, none, some (.aload_n 0, 1, [0], 0, 0), some (.getfield 9, 3, [7, 0, 2, 3, 600, 1], 0, 0), none, none, some (.aload_n 0, 1, [0], 0, 0), some (.getfield 28, 3, [7, 5, 0], 0, 0), none, none, some (.baload, 1, [], 0, 0), some (.invokestatic 76, 3, [2, 60, 1, 0], 0, 0), none],
  [none, some (.ifCond .eq 53, 3, [86], 0, 0), none, none, some (.aload_n 0, 1, [0], 0, 0), some (.getfield 28, 3, [7, 5, 0], 0, 0), none, none, some (.aload_n 0, 1, [0], 0, 0), some (.getfield 25, 3, [7, 4, 0], 0, 0), none, none, some (.isub, 1, [], 0, 0), some (.iconst 4, 1, [], 4, 0), some (.if_icmp .ge 27, 3, [73], 0, 0), none, none, some (.aload_n 0, 1, [0], 0, 0), some (.aload_n 0, 1, [0], 0, 0), some (.getfield 31, 3, [7, 6, 0], 0, 0), none, none, some (.bipush 10, 2, [], 10, 0), none, some (.imul, 1, [], 0, 0), some (.aload_n 0, 1, [0], 0, 0), some (.getfield 9, 3, [7, 0, 2, 3, 600, 1], 0, 0), none, none, some (.aload_n 0, 1, [0], 0, 0), some (.getfield 28, 3, [7, 5, 0], 0, 0), none],
  [none, some (.baload, 1, [], 0, 0), some (.iadd, 1, [], 0, 0), some (.bipush 48, 2, [], 48, 0), none, some (.isub, 1, [], 0, 0), some (.putfield 31, 3, [7, 6, 0], 0, 0), none, none, some (.aload_n 0, 1, [0], 0, 0), some (.dup, 1, [], 0, 0), some (.getfield 28, 3, [7, 5, 0], 0, 0), none, none, some (.iconst 1, 1, [], 1, 0), some (.iadd, 1, [], 0, 0), some (.putfield 28, 3, [7, 5, 0], 0, 0), none, none, some (.goto (-73), 3, [10], 0, 0), none, none, some (.aload_n 0, 1, [0], 0, 0), some (.getfield 28, 3, [7, 5, 0], 0, 0), none, none, some (.aload_n 0, 1, [0], 0, 0), some (.getfield 25, 3, [7, 4, 0], 0, 0), none, none, some (.isub, 1, [], 0, 0), some (.iconst 4, 1, [], 4, 0)],
  [some (.if_icmp .le 18, 3, [114], 0, 0), none, none, some (.aload_n 0, 1, [0], 0, 0), some (.iconst 4, 1, [], 4, 0), some (.putfield 22, 3, [7, 3, 0], 0, 0), none, none, some (.aload_n 0, 1, [0], 0, 0), some (.iconst 1, 1, [], 1, 0), some (.aload_n 0, 1, [0], 0, 0), some (.getfield 25, 3, [7, 4, 0], 0, 0), none, none, some (.invokevirtual 85, 3, [0, 56, 3, 0], 0, 0), none, none, some (.pop, 1, [], 0, 0), some (.return_, 1, [], 0, 0)]]
def F_Reader_scanNumber_86 (N : Nat) (bk : (MH → Option (MH))) (h : MH) : Option (MH) :=
  if ((gI h 3 5) - (gI h 3 4)) ≤ 4 then
  (some h)
  else
  (let h7 : MH := sI h 3 3 4
  (f_Reader_fail N 1 (gI h7 3 4) h7).bind (fun x8 =>
  some x8.2))
def F_Reader_scanNumber_10 (N : Nat) (bk : (MH → Option (MH))) (h : MH) : Option (MH) :=
  if (gI h 3 2) ≤ (gI h 3 5) then
  (F_Reader_scanNumber_86 N bk h)
  else
  (if inB (gI h 3 5) 600 = true then
  ((f_Reader_isDigit N (gI h 4 (iN (gI h 3 5))) h).bind (fun x3 =>
  if x3.1 = 0 then
  (F_Reader_scanNumber_86 N bk x3.2)
  else
  (if 4 ≤ ((gI x3.2 3 5) - (gI x3.2 3 4)) then
  (let h4 : MH := sI x3.2 3 5 ((gI x3.2 3 5) + 1)
  bk h4)
  else
  (if inB (gI x3.2 3 5) 600 = true then
  (let h5 : MH := sI x3.2 3 6 ((((gI x3.2 3 6) * 10) + (gI x3.2 4 (iN (gI x3.2 3 5)))) - 48)
  let h6 : MH := sI h5 3 5 ((gI h5 3 5) + 1)
  bk h6)
  else none))))
  else none)
def F_Reader_scanNumber_0 (N : Nat) (bk : (MH → Option (MH))) (h : MH) : Option (MH) :=
  let h1 : MH := sI h 3 3 2
  let h2 : MH := sI h1 3 6 0
  F_Reader_scanNumber_10 N bk h2
def L_Reader_scanNumber (N : Nat) : Nat → (MH → Option (MH))
  | 0 => fun _ => none
  | n + 1 => F_Reader_scanNumber_10 N (L_Reader_scanNumber N n)
def f_Reader_scanNumber (N : Nat) (h : MH) : Option (MH) := F_Reader_scanNumber_0 N (L_Reader_scanNumber N N) h
def C_Reader_scanNumber (N : Nat) : MC := (KDL, false, (fun _ => 0), jsB, (fun j => match Nat.beq j 56 with
    | true => w_Reader_fail (f_Reader_fail N)
    | false => match Nat.beq j 60 with
    | true => w_Reader_isDigit (f_Reader_isDigit N)
    | false => fun _ _ => none), (fun _ _ _ => none), (fun _ _ _ => none), (fun _ _ _ => none))
def D_Reader_scanNumber (N : Nat) (n pc : Nat) (lv : ML) (st : List MV) (h : MH) : Option (MH) :=
  match Nat.beq pc 0 with
  | true => (match lk lv 0, st with
    | some (.inr (.inr (0, 7, 3))), [] => F_Reader_scanNumber_0 N (L_Reader_scanNumber N n) h
    | _, _ => none)
  | false => match Nat.beq pc 10 with
  | true => (match lk lv 0, st with
    | some (.inr (.inr (0, 7, 3))), [] => F_Reader_scanNumber_10 N (L_Reader_scanNumber N n) h
    | _, _ => none)
  | false => match Nat.beq pc 86 with
  | true => (match lk lv 0, st with
    | some (.inr (.inr (0, 7, 3))), [] => F_Reader_scanNumber_86 N (L_Reader_scanNumber N n) h
    | _, _ => none)
  | false => none
def B_Reader_scanNumber (N : Nat) (n pc : Nat) (lv : ML) (st : List MV) (h : MH) : Option (MH) :=
  match Nat.beq pc 10 with
  | true => (match lk lv 0, st with
    | some (.inr (.inr (0, 7, 3))), [] => ((L_Reader_scanNumber N n)) h
    | _, _ => none)
  | false => none
set_option maxRecDepth 1000000 in
theorem E_Reader_scanNumber_0 (N : Nat) (n : Nat) (h : MH) : seg (C_Reader_scanNumber N) 1 0 rV T_Reader_scanNumber [0, 10, 86] (fun q lv st h => match Nat.ble 1 q with
    | true => D_Reader_scanNumber N n q lv st h
    | false => B_Reader_scanNumber N n q lv st h) 400 true 0 [(0, .inr (.inr (0, 7, 3)))] [] h = F_Reader_scanNumber_0 N (L_Reader_scanNumber N n) h := (rfl)
set_option maxRecDepth 1000000 in
theorem E_Reader_scanNumber_10 (N : Nat) (n : Nat) (h : MH) : seg (C_Reader_scanNumber N) 1 0 rV T_Reader_scanNumber [0, 10, 86] (fun q lv st h => match Nat.ble 11 q with
    | true => D_Reader_scanNumber N n q lv st h
    | false => B_Reader_scanNumber N n q lv st h) 400 true 10 [(0, .inr (.inr (0, 7, 3)))] [] h = F_Reader_scanNumber_10 N (L_Reader_scanNumber N n) h := (rfl)
set_option maxRecDepth 1000000 in
theorem E_Reader_scanNumber_86 (N : Nat) (n : Nat) (h : MH) : seg (C_Reader_scanNumber N) 1 0 rV T_Reader_scanNumber [0, 10, 86] (fun q lv st h => match Nat.ble 87 q with
    | true => D_Reader_scanNumber N n q lv st h
    | false => B_Reader_scanNumber N n q lv st h) 400 true 86 [(0, .inr (.inr (0, 7, 3)))] [] h = F_Reader_scanNumber_86 N (L_Reader_scanNumber N n) h := (rfl)
def T_Reader_isLetter : List (List (Option RW)) := [
  [some (.iload_n 0, 1, [0], 0, 0), some (.bipush 97, 2, [], 97, 0), none, some (.if_icmp .lt 13, 3, [16], 0, 0), none, none, some (.iload_n 0, 1, [0], 0, 0), some (.bipush 122, 2, [], 122, 0), none, some (.if_icmp .gt 7, 3, [16], 0, 0), none, none, some (.iconst 1, 1, [], 1, 0), some (.goto 4, 3, [17], 0, 0), none, none, some (.iconst 0, 1, [], 0, 0), some (.ireturn, 1, [], 0, 0)]]
def f_Reader_isLetter (N : Nat) (a0 : Int32) (h : MH) : Option (Int32 × MH) :=
  if a0 < 97 then
  (some (0, h))
  else
  (if 122 < a0 then
  (some (0, h))
  else
  (some (1, h)))
def C_Reader_isLetter (N : Nat) : MC := (KDL, false, (fun _ => 0), jsB, (fun _ _ _ => none), (fun _ _ _ => none), (fun _ _ _ => none), (fun _ _ _ => none))
def D_Reader_isLetter (N : Nat) (n pc : Nat) (lv : ML) (st : List MV) (h : MH) : Option (Int32 × MH) :=
  match Nat.beq pc 0 with
  | true => (match lk lv 0, st with
    | some (.inl a0), [] => f_Reader_isLetter N a0 h
    | _, _ => none)
  | false => none
set_option maxRecDepth 1000000 in
theorem E_Reader_isLetter_0 (N : Nat) (n : Nat) (a0 : Int32) (h : MH) : seg (C_Reader_isLetter N) 1 1 rI T_Reader_isLetter [0] (fun q lv st h => match Nat.ble 1 q with
    | true => D_Reader_isLetter N n q lv st h
    | false => none) 400 true 0 [(0, .inl a0)] [] h = f_Reader_isLetter N a0 h := (rfl)
def T_Reader_isSignByte : List (List (Option RW)) := [
  [some (.iload_n 0, 1, [0], 0, 0), some (.bipush 59, 2, [], 59, 0), none, some (.if_icmp .eq 33, 3, [36], 0, 0), none, none, some (.iload_n 0, 1, [0], 0, 0), some (.bipush 43, 2, [], 43, 0), none, some (.if_icmp .eq 27, 3, [36], 0, 0), none, none, some (.iload_n 0, 1, [0], 0, 0), some (.bipush 45, 2, [], 45, 0), none, some (.if_icmp .eq 21, 3, [36], 0, 0), none, none, some (.iload_n 0, 1, [0], 0, 0), some (.bipush 42, 2, [], 42, 0), none, some (.if_icmp .eq 15, 3, [36], 0, 0), none, none, some (.iload_n 0, 1, [0], 0, 0), some (.bipush 40, 2, [], 40, 0), none, some (.if_icmp .eq 9, 3, [36], 0, 0), none, none, some (.iload_n 0, 1, [0], 0, 0), some (.bipush 41, 2, [], 41, 0)],
  [none, some (.if_icmp .ne 7, 3, [40], 0, 0), none, none, some (.iconst 1, 1, [], 1, 0), some (.goto 4, 3, [41], 0, 0), none, none, some (.iconst 0, 1, [], 0, 0), some (.ireturn, 1, [], 0, 0)]]
def f_Reader_isSignByte (N : Nat) (a0 : Int32) (h : MH) : Option (Int32 × MH) :=
  if a0 = 59 then
  (some (1, h))
  else
  (if a0 = 43 then
  (some (1, h))
  else
  (if a0 = 45 then
  (some (1, h))
  else
  (if a0 = 42 then
  (some (1, h))
  else
  (if a0 = 40 then
  (some (1, h))
  else
  (if a0 = 41 then
  (some (1, h))
  else
  (some (0, h)))))))
def C_Reader_isSignByte (N : Nat) : MC := (KDL, false, (fun _ => 0), jsB, (fun _ _ _ => none), (fun _ _ _ => none), (fun _ _ _ => none), (fun _ _ _ => none))
def D_Reader_isSignByte (N : Nat) (n pc : Nat) (lv : ML) (st : List MV) (h : MH) : Option (Int32 × MH) :=
  match Nat.beq pc 0 with
  | true => (match lk lv 0, st with
    | some (.inl a0), [] => f_Reader_isSignByte N a0 h
    | _, _ => none)
  | false => none
set_option maxRecDepth 1000000 in
theorem E_Reader_isSignByte_0 (N : Nat) (n : Nat) (a0 : Int32) (h : MH) : seg (C_Reader_isSignByte N) 1 1 rI T_Reader_isSignByte [0] (fun q lv st h => match Nat.ble 1 q with
    | true => D_Reader_isSignByte N n q lv st h
    | false => none) 400 true 0 [(0, .inl a0)] [] h = f_Reader_isSignByte N a0 h := (rfl)
def T_Reader_advance : List (List (Option RW)) := [
  [some (.aload_n 0, 1, [0], 0, 0), some (.aload_n 0, 1, [0], 0, 0), some (.getfield 28, 3, [7, 5, 0], 0, 0), none, none, some (.putfield 25, 3, [7, 4, 0], 0, 0), none, none, some (.aload_n 0, 1, [0], 0, 0), some (.getfield 25, 3, [7, 4, 0], 0, 0), none, none, some (.aload_n 0, 1, [0], 0, 0), some (.getfield 19, 3, [7, 2, 0], 0, 0), none, none, some (.if_icmp .ge 44, 3, [60], 0, 0), none, none, some (.aload_n 0, 1, [0], 0, 0), some (.getfield 9, 3, [7, 0, 2, 3, 600, 1], 0, 0), none, none, some (.aload_n 0, 1, [0], 0, 0), some (.getfield 25, 3, [7, 4, 0], 0, 0), none, none, some (.baload, 1, [], 0, 0), some (.bipush 10, 2, [], 10, 0), none, some (.if_icmp .eq 17, 3, [47], 0, 0), none],
  [none, some (.aload_n 0, 1, [0], 0, 0), some (.getfield 9, 3, [7, 0, 2, 3, 600, 1], 0, 0), none, none, some (.aload_n 0, 1, [0], 0, 0), some (.getfield 25, 3, [7, 4, 0], 0, 0), none, none, some (.baload, 1, [], 0, 0), some (.bipush 32, 2, [], 32, 0), none, some (.if_icmp .ne 16, 3, [60], 0, 0), none, none, some (.aload_n 0, 1, [0], 0, 0), some (.dup, 1, [], 0, 0), some (.getfield 25, 3, [7, 4, 0], 0, 0), none, none, some (.iconst 1, 1, [], 1, 0), some (.iadd, 1, [], 0, 0), some (.putfield 25, 3, [7, 4, 0], 0, 0), none, none, some (.goto (-49), 3, [8], 0, 0), none, none, some (.aload_n 0, 1, [0], 0, 0), some (.aload_n 0, 1, [0], 0, 0), some (.getfield 25, 3, [7, 4, 0], 0, 0), none],
  [none, some (.putfield 28, 3, [7, 5, 0], 0, 0), none, none, some (.aload_n 0, 1, [0], 0, 0), some (.getfield 25, 3, [7, 4, 0], 0, 0), none, none, some (.aload_n 0, 1, [0], 0, 0), some (.getfield 19, 3, [7, 2, 0], 0, 0), none, none, some (.if_icmp .lt 11, 3, [87], 0, 0), none, none, some (.aload_n 0, 1, [0], 0, 0), some (.iconst 0, 1, [], 0, 0), some (.putfield 22, 3, [7, 3, 0], 0, 0), none, none, some (.goto 132, 3, [216], 0, 0), none, none, some (.aload_n 0, 1, [0], 0, 0), some (.getfield 9, 3, [7, 0, 2, 3, 600, 1], 0, 0), none, none, some (.aload_n 0, 1, [0], 0, 0), some (.getfield 25, 3, [7, 4, 0], 0, 0), none, none, some (.baload, 1, [], 0, 0)],
  [some (.invokestatic 72, 3, [2, 59, 1, 0], 0, 0), none, none, some (.ifCond .eq 47, 3, [146], 0, 0), none, none, some (.aload_n 0, 1, [0], 0, 0), some (.iconst 1, 1, [], 1, 0), some (.putfield 22, 3, [7, 3, 0], 0, 0), none, none, some (.aload_n 0, 1, [0], 0, 0), some (.getfield 28, 3, [7, 5, 0], 0, 0), none, none, some (.aload_n 0, 1, [0], 0, 0), some (.getfield 19, 3, [7, 2, 0], 0, 0), none, none, some (.if_icmp .ge 101, 3, [216], 0, 0), none, none, some (.aload_n 0, 1, [0], 0, 0), some (.getfield 9, 3, [7, 0, 2, 3, 600, 1], 0, 0), none, none, some (.aload_n 0, 1, [0], 0, 0), some (.getfield 28, 3, [7, 5, 0], 0, 0), none, none, some (.baload, 1, [], 0, 0), some (.invokestatic 72, 3, [2, 59, 1, 0], 0, 0)],
  [none, none, some (.ifCond .eq 86, 3, [216], 0, 0), none, none, some (.aload_n 0, 1, [0], 0, 0), some (.dup, 1, [], 0, 0), some (.getfield 28, 3, [7, 5, 0], 0, 0), none, none, some (.iconst 1, 1, [], 1, 0), some (.iadd, 1, [], 0, 0), some (.putfield 28, 3, [7, 5, 0], 0, 0), none, none, some (.goto (-36), 3, [107], 0, 0), none, none, some (.aload_n 0, 1, [0], 0, 0), some (.getfield 9, 3, [7, 0, 2, 3, 600, 1], 0, 0), none, none, some (.aload_n 0, 1, [0], 0, 0), some (.getfield 25, 3, [7, 4, 0], 0, 0), none, none, some (.baload, 1, [], 0, 0), some (.invokestatic 76, 3, [2, 60, 1, 0], 0, 0), none, none, some (.ifCond .eq 10, 3, [168], 0, 0), none],
  [none, some (.aload_n 0, 1, [0], 0, 0), some (.invokevirtual 79, 3, [0, 58, 1, 3], 0, 0), none, none, some (.goto 51, 3, [216], 0, 0), none, none, some (.aload_n 0, 1, [0], 0, 0), some (.getfield 9, 3, [7, 0, 2, 3, 600, 1], 0, 0), none, none, some (.aload_n 0, 1, [0], 0, 0), some (.getfield 25, 3, [7, 4, 0], 0, 0), none, none, some (.baload, 1, [], 0, 0), some (.invokestatic 82, 3, [2, 61, 1, 0], 0, 0), none, none, some (.ifCond .eq 21, 3, [201], 0, 0), none, none, some (.aload_n 0, 1, [0], 0, 0), some (.iconst 3, 1, [], 3, 0), some (.putfield 22, 3, [7, 3, 0], 0, 0), none, none, some (.aload_n 0, 1, [0], 0, 0), some (.dup, 1, [], 0, 0), some (.getfield 28, 3, [7, 5, 0], 0, 0), none],
  [none, some (.iconst 1, 1, [], 1, 0), some (.iadd, 1, [], 0, 0), some (.putfield 28, 3, [7, 5, 0], 0, 0), none, none, some (.goto 18, 3, [216], 0, 0), none, none, some (.aload_n 0, 1, [0], 0, 0), some (.iconst 4, 1, [], 4, 0), some (.putfield 22, 3, [7, 3, 0], 0, 0), none, none, some (.aload_n 0, 1, [0], 0, 0), some (.iconst 1, 1, [], 1, 0), some (.aload_n 0, 1, [0], 0, 0), some (.getfield 25, 3, [7, 4, 0], 0, 0), none, none, some (.invokevirtual 85, 3, [0, 56, 3, 0], 0, 0), none, none, some (.pop, 1, [], 0, 0), some (.return_, 1, [], 0, 0)]]
def F_Reader_advance_107 (N : Nat) (bk : (MH → Option (MH)) × (MH → Option (MH))) (h : MH) : Option (MH) :=
  if (gI h 3 2) ≤ (gI h 3 5) then
  (some h)
  else
  (if inB (gI h 3 5) 600 = true then
  ((f_Reader_isLetter N (gI h 4 (iN (gI h 3 5))) h).bind (fun x15 =>
  if x15.1 = 0 then
  (some x15.2)
  else
  (let h16 : MH := sI x15.2 3 5 ((gI x15.2 3 5) + 1)
  (bk.2) h16)))
  else none)
def F_Reader_advance_60 (N : Nat) (bk : (MH → Option (MH)) × (MH → Option (MH))) (h : MH) : Option (MH) :=
  let h4 : MH := sI h 3 5 (gI h 3 4)
  if (gI h4 3 4) < (gI h4 3 2) then
  (if inB (gI h4 3 4) 600 = true then
  ((f_Reader_isLetter N (gI h4 4 (iN (gI h4 3 4))) h4).bind (fun x5 =>
  if x5.1 = 0 then
  (if inB (gI x5.2 3 4) 600 = true then
  ((f_Reader_isDigit N (gI x5.2 4 (iN (gI x5.2 3 4))) x5.2).bind (fun x6 =>
  if x6.1 = 0 then
  (if inB (gI x6.2 3 4) 600 = true then
  ((f_Reader_isSignByte N (gI x6.2 4 (iN (gI x6.2 3 4))) x6.2).bind (fun x7 =>
  if x7.1 = 0 then
  (let h8 : MH := sI x7.2 3 3 4
  (f_Reader_fail N 1 (gI h8 3 4) h8).bind (fun x9 =>
  some x9.2))
  else
  (let h10 : MH := sI x7.2 3 3 3
  let h11 : MH := sI h10 3 5 ((gI h10 3 5) + 1)
  some h11)))
  else none)
  else
  ((f_Reader_scanNumber N x6.2).bind (fun x12 =>
  some x12))))
  else none)
  else
  (let h13 : MH := sI x5.2 3 3 1
  F_Reader_advance_107 N bk h13)))
  else none)
  else
  (let h14 : MH := sI h4 3 3 0
  some h14)
def F_Reader_advance_8 (N : Nat) (bk : (MH → Option (MH)) × (MH → Option (MH))) (h : MH) : Option (MH) :=
  if (gI h 3 2) ≤ (gI h 3 4) then
  (F_Reader_advance_60 N bk h)
  else
  (if inB (gI h 3 4) 600 = true then
  (if (gI h 4 (iN (gI h 3 4))) = 10 then
  (let h2 : MH := sI h 3 4 ((gI h 3 4) + 1)
  (bk.1) h2)
  else
  (if inB (gI h 3 4) 600 = true then
  (if (gI h 4 (iN (gI h 3 4))) = 32 then
  (let h3 : MH := sI h 3 4 ((gI h 3 4) + 1)
  (bk.1) h3)
  else
  (F_Reader_advance_60 N bk h))
  else none))
  else none)
def F_Reader_advance_0 (N : Nat) (bk : (MH → Option (MH)) × (MH → Option (MH))) (h : MH) : Option (MH) :=
  let h1 : MH := sI h 3 4 (gI h 3 5)
  F_Reader_advance_8 N bk h1
def L_Reader_advance (N : Nat) : Nat → ((MH → Option (MH)) × (MH → Option (MH)))
  | 0 => (fun _ => none, fun _ => none)
  | n + 1 => (F_Reader_advance_8 N (L_Reader_advance N n), F_Reader_advance_107 N (L_Reader_advance N n))
def f_Reader_advance (N : Nat) (h : MH) : Option (MH) := F_Reader_advance_0 N (L_Reader_advance N N) h
def C_Reader_advance (N : Nat) : MC := (KDL, false, (fun _ => 0), jsB, (fun j => match Nat.beq j 56 with
    | true => w_Reader_fail (f_Reader_fail N)
    | false => match Nat.beq j 59 with
    | true => w_Reader_isLetter (f_Reader_isLetter N)
    | false => match Nat.beq j 60 with
    | true => w_Reader_isDigit (f_Reader_isDigit N)
    | false => match Nat.beq j 61 with
    | true => w_Reader_isSignByte (f_Reader_isSignByte N)
    | false => fun _ _ => none), (fun _ _ _ => none), (fun _ _ _ => none), (fun j => match Nat.beq j 58 with
    | true => w_Reader_scanNumber (f_Reader_scanNumber N)
    | false => fun _ _ => none))
def D_Reader_advance (N : Nat) (n pc : Nat) (lv : ML) (st : List MV) (h : MH) : Option (MH) :=
  match Nat.beq pc 0 with
  | true => (match lk lv 0, st with
    | some (.inr (.inr (0, 7, 3))), [] => F_Reader_advance_0 N (L_Reader_advance N n) h
    | _, _ => none)
  | false => match Nat.beq pc 8 with
  | true => (match lk lv 0, st with
    | some (.inr (.inr (0, 7, 3))), [] => F_Reader_advance_8 N (L_Reader_advance N n) h
    | _, _ => none)
  | false => match Nat.beq pc 60 with
  | true => (match lk lv 0, st with
    | some (.inr (.inr (0, 7, 3))), [] => F_Reader_advance_60 N (L_Reader_advance N n) h
    | _, _ => none)
  | false => match Nat.beq pc 107 with
  | true => (match lk lv 0, st with
    | some (.inr (.inr (0, 7, 3))), [] => F_Reader_advance_107 N (L_Reader_advance N n) h
    | _, _ => none)
  | false => none
def B_Reader_advance (N : Nat) (n pc : Nat) (lv : ML) (st : List MV) (h : MH) : Option (MH) :=
  match Nat.beq pc 8 with
  | true => (match lk lv 0, st with
    | some (.inr (.inr (0, 7, 3))), [] => ((L_Reader_advance N n).1) h
    | _, _ => none)
  | false => match Nat.beq pc 107 with
  | true => (match lk lv 0, st with
    | some (.inr (.inr (0, 7, 3))), [] => ((L_Reader_advance N n).2) h
    | _, _ => none)
  | false => none
set_option maxRecDepth 1000000 in
theorem E_Reader_advance_0 (N : Nat) (n : Nat) (h : MH) : seg (C_Reader_advance N) 1 0 rV T_Reader_advance [0, 8, 60, 107] (fun q lv st h => match Nat.ble 1 q with
    | true => D_Reader_advance N n q lv st h
    | false => B_Reader_advance N n q lv st h) 400 true 0 [(0, .inr (.inr (0, 7, 3)))] [] h = F_Reader_advance_0 N (L_Reader_advance N n) h := (rfl)
set_option maxRecDepth 1000000 in
theorem E_Reader_advance_8 (N : Nat) (n : Nat) (h : MH) : seg (C_Reader_advance N) 1 0 rV T_Reader_advance [0, 8, 60, 107] (fun q lv st h => match Nat.ble 9 q with
    | true => D_Reader_advance N n q lv st h
    | false => B_Reader_advance N n q lv st h) 400 true 8 [(0, .inr (.inr (0, 7, 3)))] [] h = F_Reader_advance_8 N (L_Reader_advance N n) h := (rfl)
set_option maxRecDepth 1000000 in
theorem E_Reader_advance_60 (N : Nat) (n : Nat) (h : MH) : seg (C_Reader_advance N) 1 0 rV T_Reader_advance [0, 8, 60, 107] (fun q lv st h => match Nat.ble 61 q with
    | true => D_Reader_advance N n q lv st h
    | false => B_Reader_advance N n q lv st h) 400 true 60 [(0, .inr (.inr (0, 7, 3)))] [] h = F_Reader_advance_60 N (L_Reader_advance N n) h := (rfl)
set_option maxRecDepth 1000000 in
theorem E_Reader_advance_107 (N : Nat) (n : Nat) (h : MH) : seg (C_Reader_advance N) 1 0 rV T_Reader_advance [0, 8, 60, 107] (fun q lv st h => match Nat.ble 108 q with
    | true => D_Reader_advance N n q lv st h
    | false => B_Reader_advance N n q lv st h) 400 true 107 [(0, .inr (.inr (0, 7, 3)))] [] h = F_Reader_advance_107 N (L_Reader_advance N n) h := (rfl)
def T_String_coder : List (List (Option RW)) := [
  [some (.getstatic 38, 3, [], 1, 0), none, none, some (.ifCond .eq 10, 3, [13], 0, 0), none, none, some (.aload_n 0, 1, [0], 0, 0), some (.getfield 15, 3, [5], 0, 0), none, none, some (.goto 4, 3, [14], 0, 0), none, none, some (.iconst 1, 1, [], 1, 0), some (.ireturn, 1, [], 0, 0)]]
def f_String_coder (N : Nat) (q0 : Nat) (h : MH) : Option (Int32 × MH) :=
  if (1 : Int32) = 0 then
  (match narOK 2 1 with
  | true => some (1, h)
  | false => none)
  else
  (match narOK 2 0 with
  | true => some (0, h)
  | false => none)
def C_String_coder (N : Nat) : MC := (KDL, false, (fun _ => 0), jsB, (fun _ _ _ => none), (fun _ _ _ => none), (fun _ _ _ => none), (fun _ _ _ => none))
def D_String_coder (N : Nat) (n pc : Nat) (lv : ML) (st : List MV) (h : MH) : Option (Int32 × MH) :=
  match Nat.beq pc 0 with
  | true => (match lk lv 0, st with
    | some (.inr (.inr (8, q0, 0))), [] => f_String_coder N q0 h
    | _, _ => none)
  | false => none
set_option maxRecDepth 1000000 in
theorem E_String_coder_0 (N : Nat) (n : Nat) (q0 : Nat) (h : MH) : seg (C_String_coder N) 1 2 rI T_String_coder [0] (fun q lv st h => match Nat.ble 1 q with
    | true => D_String_coder N n q lv st h
    | false => none) 400 true 0 [(0, .inr (.inr (8, q0, 0)))] [] h = f_String_coder N q0 h := (rfl)
def T_String_length : List (List (Option RW)) := [
  [some (.aload_n 0, 1, [0], 0, 0), some (.getfield 9, 3, [4], 0, 0), none, none, some (.arraylength, 1, [], 0, 0), some (.aload_n 0, 1, [0], 0, 0), some (.invokevirtual 335, 3, [6, 265, 1, 0], 0, 0), none, none, some (.ishr, 1, [], 0, 0), some (.ireturn, 1, [], 0, 0)]]
def f_String_length (N : Nat) (q0 : Nat) (h : MH) : Option (Int32 × MH) :=
  (f_String_coder N q0 h).bind (fun x1 =>
  some (((nI (jsB.getD q0 []).length)) >>> (x1.1 &&& 31), x1.2))
def C_String_length (N : Nat) : MC := (KDL, false, (fun _ => 0), jsB, (fun j => match Nat.beq j 265 with
    | true => w_String_coder (f_String_coder N)
    | false => fun _ _ => none), (fun _ _ _ => none), (fun _ _ _ => none), (fun _ _ _ => none))
def D_String_length (N : Nat) (n pc : Nat) (lv : ML) (st : List MV) (h : MH) : Option (Int32 × MH) :=
  match Nat.beq pc 0 with
  | true => (match lk lv 0, st with
    | some (.inr (.inr (8, q0, 0))), [] => f_String_length N q0 h
    | _, _ => none)
  | false => none
set_option maxRecDepth 1000000 in
theorem E_String_length_0 (N : Nat) (n : Nat) (q0 : Nat) (h : MH) : seg (C_String_length N) 1 0 rI T_String_length [0] (fun q lv st h => match Nat.ble 1 q with
    | true => D_String_length N n q lv st h
    | false => none) 400 true 0 [(0, .inr (.inr (8, q0, 0)))] [] h = f_String_length N q0 h := (rfl)
def T_String_isLatin1 : List (List (Option RW)) := [
  [some (.getstatic 38, 3, [], 1, 0), none, none, some (.ifCond .eq 14, 3, [17], 0, 0), none, none, some (.aload_n 0, 1, [0], 0, 0), some (.getfield 15, 3, [5], 0, 0), none, none, some (.ifCond .ne 7, 3, [17], 0, 0), none, none, some (.iconst 1, 1, [], 1, 0), some (.goto 4, 3, [18], 0, 0), none, none, some (.iconst 0, 1, [], 0, 0), some (.ireturn, 1, [], 0, 0)]]
def f_String_isLatin1 (N : Nat) (q0 : Nat) (h : MH) : Option (Int32 × MH) :=
  if (1 : Int32) = 0 then
  (some (0, h))
  else
  (if (0 : Int32) = 0 then
  (some (1, h))
  else
  (some (0, h)))
def C_String_isLatin1 (N : Nat) : MC := (KDL, false, (fun _ => 0), jsB, (fun _ _ _ => none), (fun _ _ _ => none), (fun _ _ _ => none), (fun _ _ _ => none))
def D_String_isLatin1 (N : Nat) (n pc : Nat) (lv : ML) (st : List MV) (h : MH) : Option (Int32 × MH) :=
  match Nat.beq pc 0 with
  | true => (match lk lv 0, st with
    | some (.inr (.inr (8, q0, 0))), [] => f_String_isLatin1 N q0 h
    | _, _ => none)
  | false => none
set_option maxRecDepth 1000000 in
theorem E_String_isLatin1_0 (N : Nat) (n : Nat) (q0 : Nat) (h : MH) : seg (C_String_isLatin1 N) 1 1 rI T_String_isLatin1 [0] (fun q lv st h => match Nat.ble 1 q with
    | true => D_String_isLatin1 N n q lv st h
    | false => none) 400 true 0 [(0, .inr (.inr (8, q0, 0)))] [] h = f_String_isLatin1 N q0 h := (rfl)
def T_StringLatin1_charAt : List (List (Option RW)) := [
  [some (.iload_n 1, 1, [1], 0, 0), some (.aload_n 0, 1, [0], 0, 0), some (.arraylength, 1, [], 0, 0), some (.invokestatic 9, 3, [6, 267, 2, 3], 0, 0), none, none, some (.aload_n 0, 1, [0], 0, 0), some (.iload_n 1, 1, [1], 0, 0), some (.baload, 1, [], 0, 0), some (.sipush 255, 3, [], 255, 0), none, none, some (.iand, 1, [], 0, 0), some (.i2c, 1, [], 0, 0), some (.ireturn, 1, [], 0, 0)]]
def f_StringLatin1_charAt (N : Nat) (q0 : Nat) (a1 : Int32) (h : MH) : Option (Int32 × MH) :=
  none
def C_StringLatin1_charAt (N : Nat) : MC := (KDL, false, (fun _ => 0), jsB, (fun _ _ _ => none), (fun _ _ _ => none), (fun _ _ _ => none), (fun _ _ _ => none))
def D_StringLatin1_charAt (N : Nat) (n pc : Nat) (lv : ML) (st : List MV) (h : MH) : Option (Int32 × MH) :=
  match Nat.beq pc 0 with
  | true => (match lk lv 0, lk lv 1, st with
    | some (.inr (.inr (9, q0, 0))), some (.inl a1), [] => f_StringLatin1_charAt N q0 a1 h
    | _, _, _ => none)
  | false => none
set_option maxRecDepth 1000000 in
theorem E_StringLatin1_charAt_0 (N : Nat) (n : Nat) (q0 : Nat) (a1 : Int32) (h : MH) : seg (C_StringLatin1_charAt N) 2 3 rI T_StringLatin1_charAt [0] (fun q lv st h => match Nat.ble 1 q with
    | true => D_StringLatin1_charAt N n q lv st h
    | false => none) 400 true 0 [(0, .inr (.inr (9, q0, 0))), (1, .inl a1)] [] h = f_StringLatin1_charAt N q0 a1 h := (rfl)
def T_String_charAt : List (List (Option RW)) := [
  [some (.aload_n 0, 1, [0], 0, 0), some (.invokevirtual 492, 3, [6, 266, 1, 0], 0, 0), none, none, some (.ifCond .eq 12, 3, [16], 0, 0), none, none, some (.aload_n 0, 1, [0], 0, 0), some (.getfield 9, 3, [4], 0, 0), none, none, some (.iload_n 1, 1, [1], 0, 0), some (.invokestatic 495, 3, [2, 268, 2, 0], 0, 0), none, none, some (.ireturn, 1, [], 0, 0), some (.aload_n 0, 1, [0], 0, 0), some (.getfield 9, 3, [4], 0, 0), none, none, some (.iload_n 1, 1, [1], 0, 0), some (.invokestatic 498, 3, [2, 271, 2, 0], 0, 0), none, none, some (.ireturn, 1, [], 0, 0)]]
def f_String_charAt (N : Nat) (q0 : Nat) (a1 : Int32) (h : MH) : Option (Int32 × MH) :=
  (f_String_isLatin1 N q0 h).bind (fun x1 =>
  if x1.1 = 0 then
  (none)
  else
  ((f_StringLatin1_charAt N q0 a1 x1.2).bind (fun x2 =>
  match narOK 3 x2.1 with
  | true => some (x2.1, x2.2)
  | false => none)))
def C_String_charAt (N : Nat) : MC := (KDL, false, (fun _ => 0), jsB, (fun j => match Nat.beq j 266 with
    | true => w_String_isLatin1 (f_String_isLatin1 N)
    | false => match Nat.beq j 268 with
    | true => w_StringLatin1_charAt (f_StringLatin1_charAt N)
    | false => fun _ _ => none), (fun _ _ _ => none), (fun _ _ _ => none), (fun _ _ _ => none))
def D_String_charAt (N : Nat) (n pc : Nat) (lv : ML) (st : List MV) (h : MH) : Option (Int32 × MH) :=
  match Nat.beq pc 0 with
  | true => (match lk lv 0, lk lv 1, st with
    | some (.inr (.inr (8, q0, 0))), some (.inl a1), [] => f_String_charAt N q0 a1 h
    | _, _, _ => none)
  | false => none
set_option maxRecDepth 1000000 in
theorem E_String_charAt_0 (N : Nat) (n : Nat) (q0 : Nat) (a1 : Int32) (h : MH) : seg (C_String_charAt N) 2 3 rI T_String_charAt [0] (fun q lv st h => match Nat.ble 1 q with
    | true => D_String_charAt N n q lv st h
    | false => none) 400 true 0 [(0, .inr (.inr (8, q0, 0))), (1, .inl a1)] [] h = f_String_charAt N q0 a1 h := (rfl)
def T_Reader_isWord : List (List (Option RW)) := [
  [some (.aload_n 0, 1, [0], 0, 0), some (.getfield 22, 3, [7, 3, 0], 0, 0), none, none, some (.iconst 1, 1, [], 1, 0), some (.if_icmp .ne 19, 3, [24], 0, 0), none, none, some (.aload_n 0, 1, [0], 0, 0), some (.getfield 28, 3, [7, 5, 0], 0, 0), none, none, some (.aload_n 0, 1, [0], 0, 0), some (.getfield 25, 3, [7, 4, 0], 0, 0), none, none, some (.isub, 1, [], 0, 0), some (.aload_n 1, 1, [1], 0, 0), some (.invokevirtual 89, 3, [6, 263, 1, 0], 0, 0), none, none, some (.if_icmp .eq 5, 3, [26], 0, 0), none, none, some (.iconst 0, 1, [], 0, 0), some (.ireturn, 1, [], 0, 0), some (.iconst 0, 1, [], 0, 0), some (.istore_n 2, 1, [2], 0, 0), some (.iload_n 2, 1, [2], 0, 0), some (.aload_n 1, 1, [1], 0, 0), some (.invokevirtual 89, 3, [6, 263, 1, 0], 0, 0), none],
  [none, some (.if_icmp .ge 30, 3, [63], 0, 0), none, none, some (.aload_n 0, 1, [0], 0, 0), some (.getfield 9, 3, [7, 0, 2, 3, 600, 1], 0, 0), none, none, some (.aload_n 0, 1, [0], 0, 0), some (.getfield 25, 3, [7, 4, 0], 0, 0), none, none, some (.iload_n 2, 1, [2], 0, 0), some (.iadd, 1, [], 0, 0), some (.baload, 1, [], 0, 0), some (.aload_n 1, 1, [1], 0, 0), some (.iload_n 2, 1, [2], 0, 0), some (.invokevirtual 95, 3, [6, 264, 2, 0], 0, 0), none, none, some (.if_icmp .eq 5, 3, [57], 0, 0), none, none, some (.iconst 0, 1, [], 0, 0), some (.ireturn, 1, [], 0, 0), some (.iinc 2 1, 3, [2], 1, 0), none, none, some (.goto (-32), 3, [28], 0, 0), none, none, some (.iconst 1, 1, [], 1, 0)],
  [some (.ireturn, 1, [], 0, 0)]]
def F_Reader_isWord_28 (N : Nat) (bk : (Nat → Int32 → MH → Option (Int32 × MH))) (q1 : Nat) (a2 : Int32) (h : MH) : Option (Int32 × MH) :=
  (f_String_length N q1 h).bind (fun x2 =>
  if x2.1 ≤ a2 then
  (some (1, x2.2))
  else
  (if inB ((gI x2.2 3 4) + a2) 600 = true then
  ((f_String_charAt N q1 a2 x2.2).bind (fun x3 =>
  if (gI x2.2 4 (iN ((gI x2.2 3 4) + a2))) = x3.1 then
  (let v4 : Int32 := a2 + 1
  bk q1 v4 x3.2)
  else
  (some (0, x3.2))))
  else none))
def F_Reader_isWord_0 (N : Nat) (bk : (Nat → Int32 → MH → Option (Int32 × MH))) (q1 : Nat) (h : MH) : Option (Int32 × MH) :=
  if (gI h 3 3) = 1 then
  ((f_String_length N q1 h).bind (fun x1 =>
  if ((gI h 3 5) - (gI h 3 4)) = x1.1 then
  (F_Reader_isWord_28 N bk q1 0 x1.2)
  else
  (some (0, x1.2))))
  else
  (some (0, h))
def L_Reader_isWord (N : Nat) : Nat → (Nat → Int32 → MH → Option (Int32 × MH))
  | 0 => fun _ _ _ => none
  | n + 1 => F_Reader_isWord_28 N (L_Reader_isWord N n)
def f_Reader_isWord (N : Nat) (q1 : Nat) (h : MH) : Option (Int32 × MH) := F_Reader_isWord_0 N (L_Reader_isWord N N) q1 h
def C_Reader_isWord (N : Nat) : MC := (KDL, false, (fun _ => 0), jsB, (fun j => match Nat.beq j 263 with
    | true => w_String_length (f_String_length N)
    | false => match Nat.beq j 264 with
    | true => w_String_charAt (f_String_charAt N)
    | false => fun _ _ => none), (fun _ _ _ => none), (fun _ _ _ => none), (fun _ _ _ => none))
def D_Reader_isWord (N : Nat) (n pc : Nat) (lv : ML) (st : List MV) (h : MH) : Option (Int32 × MH) :=
  match Nat.beq pc 0 with
  | true => (match lk lv 0, lk lv 1, st with
    | some (.inr (.inr (0, 7, 3))), some (.inr (.inr (8, q1, 0))), [] => F_Reader_isWord_0 N (L_Reader_isWord N n) q1 h
    | _, _, _ => none)
  | false => match Nat.beq pc 28 with
  | true => (match lk lv 0, lk lv 1, lk lv 2, st with
    | some (.inr (.inr (0, 7, 3))), some (.inr (.inr (8, q1, 0))), some (.inl a2), [] => F_Reader_isWord_28 N (L_Reader_isWord N n) q1 a2 h
    | _, _, _, _ => none)
  | false => none
def B_Reader_isWord (N : Nat) (n pc : Nat) (lv : ML) (st : List MV) (h : MH) : Option (Int32 × MH) :=
  match Nat.beq pc 28 with
  | true => (match lk lv 0, lk lv 1, lk lv 2, st with
    | some (.inr (.inr (0, 7, 3))), some (.inr (.inr (8, q1, 0))), some (.inl a2), [] => ((L_Reader_isWord N n)) q1 a2 h
    | _, _, _, _ => none)
  | false => none
set_option maxRecDepth 1000000 in
theorem E_Reader_isWord_0 (N : Nat) (n : Nat) (q1 : Nat) (h : MH) : seg (C_Reader_isWord N) 3 1 rI T_Reader_isWord [0, 28] (fun q lv st h => match Nat.ble 1 q with
    | true => D_Reader_isWord N n q lv st h
    | false => B_Reader_isWord N n q lv st h) 400 true 0 [(0, .inr (.inr (0, 7, 3))), (1, .inr (.inr (8, q1, 0)))] [] h = F_Reader_isWord_0 N (L_Reader_isWord N n) q1 h := (rfl)
set_option maxRecDepth 1000000 in
theorem E_Reader_isWord_28 (N : Nat) (n : Nat) (q1 : Nat) (a2 : Int32) (h : MH) : seg (C_Reader_isWord N) 3 1 rI T_Reader_isWord [0, 28] (fun q lv st h => match Nat.ble 29 q with
    | true => D_Reader_isWord N n q lv st h
    | false => B_Reader_isWord N n q lv st h) 400 true 28 [(0, .inr (.inr (0, 7, 3))), (1, .inr (.inr (8, q1, 0))), (2, .inl a2)] [] h = F_Reader_isWord_28 N (L_Reader_isWord N n) q1 a2 h := (rfl)
def T_Reader_passWord : List (List (Option RW)) := [
  [some (.aload_n 0, 1, [0], 0, 0), some (.aload_n 1, 1, [1], 0, 0), some (.invokevirtual 101, 3, [0, 63, 2, 0], 0, 0), none, none, some (.ifCond .ne 13, 3, [18], 0, 0), none, none, some (.aload_n 0, 1, [0], 0, 0), some (.iconst 2, 1, [], 2, 0), some (.aload_n 0, 1, [0], 0, 0), some (.getfield 25, 3, [7, 4, 0], 0, 0), none, none, some (.invokevirtual 85, 3, [0, 56, 3, 0], 0, 0), none, none, some (.ireturn, 1, [], 0, 0), some (.aload_n 0, 1, [0], 0, 0), some (.invokevirtual 65, 3, [0, 57, 1, 3], 0, 0), none, none, some (.iconst 1, 1, [], 1, 0), some (.ireturn, 1, [], 0, 0)]]
def f_Reader_passWord (N : Nat) (q1 : Nat) (h : MH) : Option (Int32 × MH) :=
  (f_Reader_isWord N q1 h).bind (fun x1 =>
  if x1.1 = 0 then
  ((f_Reader_fail N 2 (gI x1.2 3 4) x1.2).bind (fun x2 =>
  match narOK 1 x2.1 with
  | true => some (x2.1, x2.2)
  | false => none))
  else
  ((f_Reader_advance N x1.2).bind (fun x3 =>
  some (1, x3))))
def C_Reader_passWord (N : Nat) : MC := (KDL, false, (fun _ => 0), jsB, (fun j => match Nat.beq j 56 with
    | true => w_Reader_fail (f_Reader_fail N)
    | false => match Nat.beq j 63 with
    | true => w_Reader_isWord (f_Reader_isWord N)
    | false => fun _ _ => none), (fun _ _ _ => none), (fun _ _ _ => none), (fun j => match Nat.beq j 57 with
    | true => w_Reader_advance (f_Reader_advance N)
    | false => fun _ _ => none))
def D_Reader_passWord (N : Nat) (n pc : Nat) (lv : ML) (st : List MV) (h : MH) : Option (Int32 × MH) :=
  match Nat.beq pc 0 with
  | true => (match lk lv 0, lk lv 1, st with
    | some (.inr (.inr (0, 7, 3))), some (.inr (.inr (8, q1, 0))), [] => f_Reader_passWord N q1 h
    | _, _, _ => none)
  | false => none
set_option maxRecDepth 1000000 in
theorem E_Reader_passWord_0 (N : Nat) (n : Nat) (q1 : Nat) (h : MH) : seg (C_Reader_passWord N) 2 1 rI T_Reader_passWord [0] (fun q lv st h => match Nat.ble 1 q with
    | true => D_Reader_passWord N n q lv st h
    | false => none) 400 true 0 [(0, .inr (.inr (0, 7, 3))), (1, .inr (.inr (8, q1, 0)))] [] h = f_Reader_passWord N q1 h := (rfl)
def T_S_isWithin : List (List (Option RW)) := [
  [some (.iload_n 0, 1, [0], 0, 0), some (.iload_n 1, 1, [1], 0, 0), some (.if_icmp .lt 12, 3, [14], 0, 0), none, none, some (.iload_n 0, 1, [0], 0, 0), some (.iload_n 2, 1, [2], 0, 0), some (.if_icmp .gt 7, 3, [14], 0, 0), none, none, some (.iconst 1, 1, [], 1, 0), some (.goto 4, 3, [15], 0, 0), none, none, some (.iconst 0, 1, [], 0, 0), some (.ireturn, 1, [], 0, 0)]]
def f_S_isWithin (N : Nat) (a0 : Int32) (a1 : Int32) (a2 : Int32) (h : MH) : Option (Int32 × MH) :=
  if a0 < a1 then
  (some (0, h))
  else
  (if a2 < a0 then
  (some (0, h))
  else
  (some (1, h)))
def C_S_isWithin (N : Nat) : MC := (KDL, false, (fun _ => 0), jsB, (fun _ _ _ => none), (fun _ _ _ => none), (fun _ _ _ => none), (fun _ _ _ => none))
def D_S_isWithin (N : Nat) (n pc : Nat) (lv : ML) (st : List MV) (h : MH) : Option (Int32 × MH) :=
  match Nat.beq pc 0 with
  | true => (match lk lv 0, lk lv 1, lk lv 2, st with
    | some (.inl a0), some (.inl a1), some (.inl a2), [] => f_S_isWithin N a0 a1 a2 h
    | _, _, _, _ => none)
  | false => none
set_option maxRecDepth 1000000 in
theorem E_S_isWithin_0 (N : Nat) (n : Nat) (a0 : Int32) (a1 : Int32) (a2 : Int32) (h : MH) : seg (C_S_isWithin N) 3 1 rI T_S_isWithin [0] (fun q lv st h => match Nat.ble 1 q with
    | true => D_S_isWithin N n q lv st h
    | false => none) 400 true 0 [(0, .inl a0), (1, .inl a1), (2, .inl a2)] [] h = f_S_isWithin N a0 a1 a2 h := (rfl)
def T_Reader_seesNumber : List (List (Option RW)) := [
  [some (.aload_n 0, 1, [0], 0, 0), some (.getfield 22, 3, [7, 3, 0], 0, 0), none, none, some (.iconst 2, 1, [], 2, 0), some (.if_icmp .eq 13, 3, [18], 0, 0), none, none, some (.aload_n 0, 1, [0], 0, 0), some (.iconst 2, 1, [], 2, 0), some (.aload_n 0, 1, [0], 0, 0), some (.getfield 25, 3, [7, 4, 0], 0, 0), none, none, some (.invokevirtual 85, 3, [0, 56, 3, 0], 0, 0), none, none, some (.ireturn, 1, [], 0, 0), some (.aload_n 0, 1, [0], 0, 0), some (.getfield 31, 3, [7, 6, 0], 0, 0), none, none, some (.iload_n 1, 1, [1], 0, 0), some (.iload_n 2, 1, [2], 0, 0), some (.invokestatic 121, 3, [3, 150, 3, 0], 0, 0), none, none, some (.ifCond .ne 15, 3, [42], 0, 0), none, none, some (.aload_n 0, 1, [0], 0, 0), some (.iconst 4, 1, [], 4, 0)],
  [some (.aload_n 0, 1, [0], 0, 0), some (.getfield 25, 3, [7, 4, 0], 0, 0), none, none, some (.invokevirtual 85, 3, [0, 56, 3, 0], 0, 0), none, none, some (.ifCond .eq 7, 3, [46], 0, 0), none, none, some (.iconst 1, 1, [], 1, 0), some (.goto 4, 3, [47], 0, 0), none, none, some (.iconst 0, 1, [], 0, 0), some (.ireturn, 1, [], 0, 0)]]
def f_Reader_seesNumber (N : Nat) (a1 : Int32) (a2 : Int32) (h : MH) : Option (Int32 × MH) :=
  if (gI h 3 3) = 2 then
  ((f_S_isWithin N (gI h 3 6) a1 a2 h).bind (fun x1 =>
  if x1.1 = 0 then
  ((f_Reader_fail N 4 (gI x1.2 3 4) x1.2).bind (fun x2 =>
  if x2.1 = 0 then
  (some (0, x2.2))
  else
  (some (1, x2.2))))
  else
  (some (1, x1.2))))
  else
  ((f_Reader_fail N 2 (gI h 3 4) h).bind (fun x3 =>
  match narOK 1 x3.1 with
  | true => some (x3.1, x3.2)
  | false => none))
def C_Reader_seesNumber (N : Nat) : MC := (KDL, false, (fun _ => 0), jsB, (fun j => match Nat.beq j 56 with
    | true => w_Reader_fail (f_Reader_fail N)
    | false => match Nat.beq j 150 with
    | true => w_S_isWithin (f_S_isWithin N)
    | false => fun _ _ => none), (fun _ _ _ => none), (fun _ _ _ => none), (fun _ _ _ => none))
def D_Reader_seesNumber (N : Nat) (n pc : Nat) (lv : ML) (st : List MV) (h : MH) : Option (Int32 × MH) :=
  match Nat.beq pc 0 with
  | true => (match lk lv 0, lk lv 1, lk lv 2, st with
    | some (.inr (.inr (0, 7, 3))), some (.inl a1), some (.inl a2), [] => f_Reader_seesNumber N a1 a2 h
    | _, _, _, _ => none)
  | false => none
set_option maxRecDepth 1000000 in
theorem E_Reader_seesNumber_0 (N : Nat) (n : Nat) (a1 : Int32) (a2 : Int32) (h : MH) : seg (C_Reader_seesNumber N) 3 1 rI T_Reader_seesNumber [0] (fun q lv st h => match Nat.ble 1 q with
    | true => D_Reader_seesNumber N n q lv st h
    | false => none) 400 true 0 [(0, .inr (.inr (0, 7, 3))), (1, .inl a1), (2, .inl a2)] [] h = f_Reader_seesNumber N a1 a2 h := (rfl)
def T_Reader_isSign : List (List (Option RW)) := [
  [some (.aload_n 0, 1, [0], 0, 0), some (.getfield 22, 3, [7, 3, 0], 0, 0), none, none, some (.iconst 3, 1, [], 3, 0), some (.if_icmp .ne 30, 3, [35], 0, 0), none, none, some (.aload_n 0, 1, [0], 0, 0), some (.getfield 25, 3, [7, 4, 0], 0, 0), none, none, some (.sipush 600, 3, [], 600, 0), none, none, some (.if_icmp .ge 20, 3, [35], 0, 0), none, none, some (.aload_n 0, 1, [0], 0, 0), some (.getfield 9, 3, [7, 0, 2, 3, 600, 1], 0, 0), none, none, some (.aload_n 0, 1, [0], 0, 0), some (.getfield 25, 3, [7, 4, 0], 0, 0), none, none, some (.baload, 1, [], 0, 0), some (.iload_n 1, 1, [1], 0, 0), some (.if_icmp .ne 7, 3, [35], 0, 0), none, none, some (.iconst 1, 1, [], 1, 0)],
  [some (.goto 4, 3, [36], 0, 0), none, none, some (.iconst 0, 1, [], 0, 0), some (.ireturn, 1, [], 0, 0)]]
def f_Reader_isSign (N : Nat) (a1 : Int32) (h : MH) : Option (Int32 × MH) :=
  if (gI h 3 3) = 3 then
  (if 600 ≤ (gI h 3 4) then
  (some (0, h))
  else
  (if inB (gI h 3 4) 600 = true then
  (if (gI h 4 (iN (gI h 3 4))) = a1 then
  (some (1, h))
  else
  (some (0, h)))
  else none))
  else
  (some (0, h))
def C_Reader_isSign (N : Nat) : MC := (KDL, false, (fun _ => 0), jsB, (fun _ _ _ => none), (fun _ _ _ => none), (fun _ _ _ => none), (fun _ _ _ => none))
def D_Reader_isSign (N : Nat) (n pc : Nat) (lv : ML) (st : List MV) (h : MH) : Option (Int32 × MH) :=
  match Nat.beq pc 0 with
  | true => (match lk lv 0, lk lv 1, st with
    | some (.inr (.inr (0, 7, 3))), some (.inl a1), [] => f_Reader_isSign N a1 h
    | _, _, _ => none)
  | false => none
set_option maxRecDepth 1000000 in
theorem E_Reader_isSign_0 (N : Nat) (n : Nat) (a1 : Int32) (h : MH) : seg (C_Reader_isSign N) 2 1 rI T_Reader_isSign [0] (fun q lv st h => match Nat.ble 1 q with
    | true => D_Reader_isSign N n q lv st h
    | false => none) 400 true 0 [(0, .inr (.inr (0, 7, 3))), (1, .inl a1)] [] h = f_Reader_isSign N a1 h := (rfl)
def T_Reader_seesEnd : List (List (Option RW)) := [
  [some (.aload_n 0, 1, [0], 0, 0), some (.bipush 59, 2, [], 59, 0), none, some (.invokevirtual 125, 3, [0, 62, 2, 0], 0, 0), none, none, some (.ifCond .ne 15, 3, [21], 0, 0), none, none, some (.aload_n 0, 1, [0], 0, 0), some (.iconst 2, 1, [], 2, 0), some (.aload_n 0, 1, [0], 0, 0), some (.getfield 25, 3, [7, 4, 0], 0, 0), none, none, some (.invokevirtual 85, 3, [0, 56, 3, 0], 0, 0), none, none, some (.ifCond .eq 7, 3, [25], 0, 0), none, none, some (.iconst 1, 1, [], 1, 0), some (.goto 4, 3, [26], 0, 0), none, none, some (.iconst 0, 1, [], 0, 0), some (.ireturn, 1, [], 0, 0)]]
def f_Reader_seesEnd (N : Nat) (h : MH) : Option (Int32 × MH) :=
  (f_Reader_isSign N 59 h).bind (fun x1 =>
  if x1.1 = 0 then
  ((f_Reader_fail N 2 (gI x1.2 3 4) x1.2).bind (fun x2 =>
  if x2.1 = 0 then
  (some (0, x2.2))
  else
  (some (1, x2.2))))
  else
  (some (1, x1.2)))
def C_Reader_seesEnd (N : Nat) : MC := (KDL, false, (fun _ => 0), jsB, (fun j => match Nat.beq j 56 with
    | true => w_Reader_fail (f_Reader_fail N)
    | false => match Nat.beq j 62 with
    | true => w_Reader_isSign (f_Reader_isSign N)
    | false => fun _ _ => none), (fun _ _ _ => none), (fun _ _ _ => none), (fun _ _ _ => none))
def D_Reader_seesEnd (N : Nat) (n pc : Nat) (lv : ML) (st : List MV) (h : MH) : Option (Int32 × MH) :=
  match Nat.beq pc 0 with
  | true => (match lk lv 0, st with
    | some (.inr (.inr (0, 7, 3))), [] => f_Reader_seesEnd N h
    | _, _ => none)
  | false => none
set_option maxRecDepth 1000000 in
theorem E_Reader_seesEnd_0 (N : Nat) (n : Nat) (h : MH) : seg (C_Reader_seesEnd N) 1 1 rI T_Reader_seesEnd [0] (fun q lv st h => match Nat.ble 1 q with
    | true => D_Reader_seesEnd N n q lv st h
    | false => none) 400 true 0 [(0, .inr (.inr (0, 7, 3)))] [] h = f_Reader_seesEnd N h := (rfl)
def T_Reader_isName : List (List (Option RW)) := [
  [some (.aload_n 0, 1, [0], 0, 0), some (.getfield 22, 3, [7, 3, 0], 0, 0), none, none, some (.iconst 1, 1, [], 1, 0), some (.if_icmp .ne 102, 3, [107], 0, 0), none, none, some (.aload_n 0, 1, [0], 0, 0), some (.getfield 28, 3, [7, 5, 0], 0, 0), none, none, some (.aload_n 0, 1, [0], 0, 0), some (.getfield 25, 3, [7, 4, 0], 0, 0), none, none, some (.isub, 1, [], 0, 0), some (.bipush 8, 2, [], 8, 0), none, some (.if_icmp .gt 88, 3, [107], 0, 0), none, none, some (.aload_n 0, 1, [0], 0, 0), some (.ldc 99, 2, [0], 0, 0), none, some (.invokevirtual 101, 3, [0, 63, 2, 0], 0, 0), none, none, some (.ifCond .ne 79, 3, [107], 0, 0), none, none, some (.aload_n 0, 1, [0], 0, 0)],
  [some (.ldc 105, 2, [1], 0, 0), none, some (.invokevirtual 101, 3, [0, 63, 2, 0], 0, 0), none, none, some (.ifCond .ne 70, 3, [107], 0, 0), none, none, some (.aload_n 0, 1, [0], 0, 0), some (.ldc 107, 2, [2], 0, 0), none, some (.invokevirtual 101, 3, [0, 63, 2, 0], 0, 0), none, none, some (.ifCond .ne 61, 3, [107], 0, 0), none, none, some (.aload_n 0, 1, [0], 0, 0), some (.ldc 109, 2, [3], 0, 0), none, some (.invokevirtual 101, 3, [0, 63, 2, 0], 0, 0), none, none, some (.ifCond .ne 52, 3, [107], 0, 0), none, none, some (.aload_n 0, 1, [0], 0, 0), some (.ldc 111, 2, [4], 0, 0), none, some (.invokevirtual 101, 3, [0, 63, 2, 0], 0, 0), none, none],
  [some (.ifCond .ne 43, 3, [107], 0, 0), none, none, some (.aload_n 0, 1, [0], 0, 0), some (.ldc 113, 2, [5], 0, 0), none, some (.invokevirtual 101, 3, [0, 63, 2, 0], 0, 0), none, none, some (.ifCond .ne 34, 3, [107], 0, 0), none, none, some (.aload_n 0, 1, [0], 0, 0), some (.ldc 115, 2, [6], 0, 0), none, some (.invokevirtual 101, 3, [0, 63, 2, 0], 0, 0), none, none, some (.ifCond .ne 25, 3, [107], 0, 0), none, none, some (.aload_n 0, 1, [0], 0, 0), some (.ldc 117, 2, [7], 0, 0), none, some (.invokevirtual 101, 3, [0, 63, 2, 0], 0, 0), none, none, some (.ifCond .ne 16, 3, [107], 0, 0), none, none, some (.aload_n 0, 1, [0], 0, 0), some (.ldc 119, 2, [8], 0, 0)],
  [none, some (.invokevirtual 101, 3, [0, 63, 2, 0], 0, 0), none, none, some (.ifCond .ne 7, 3, [107], 0, 0), none, none, some (.iconst 1, 1, [], 1, 0), some (.goto 4, 3, [108], 0, 0), none, none, some (.iconst 0, 1, [], 0, 0), some (.ireturn, 1, [], 0, 0)]]
def f_Reader_isName (N : Nat) (h : MH) : Option (Int32 × MH) :=
  if (gI h 3 3) = 1 then
  (if 8 < ((gI h 3 5) - (gI h 3 4)) then
  (some (0, h))
  else
  ((f_Reader_isWord N 0 h).bind (fun x1 =>
  if x1.1 = 0 then
  ((f_Reader_isWord N 1 x1.2).bind (fun x2 =>
  if x2.1 = 0 then
  ((f_Reader_isWord N 2 x2.2).bind (fun x3 =>
  if x3.1 = 0 then
  ((f_Reader_isWord N 3 x3.2).bind (fun x4 =>
  if x4.1 = 0 then
  ((f_Reader_isWord N 4 x4.2).bind (fun x5 =>
  if x5.1 = 0 then
  ((f_Reader_isWord N 5 x5.2).bind (fun x6 =>
  if x6.1 = 0 then
  ((f_Reader_isWord N 6 x6.2).bind (fun x7 =>
  if x7.1 = 0 then
  ((f_Reader_isWord N 7 x7.2).bind (fun x8 =>
  if x8.1 = 0 then
  ((f_Reader_isWord N 8 x8.2).bind (fun x9 =>
  if x9.1 = 0 then
  (some (1, x9.2))
  else
  (some (0, x9.2))))
  else
  (some (0, x8.2))))
  else
  (some (0, x7.2))))
  else
  (some (0, x6.2))))
  else
  (some (0, x5.2))))
  else
  (some (0, x4.2))))
  else
  (some (0, x3.2))))
  else
  (some (0, x2.2))))
  else
  (some (0, x1.2)))))
  else
  (some (0, h))
def C_Reader_isName (N : Nat) : MC := (KDL, false, (fun _ => 0), jsB, (fun j => match Nat.beq j 63 with
    | true => w_Reader_isWord (f_Reader_isWord N)
    | false => fun _ _ => none), (fun _ _ _ => none), (fun _ _ _ => none), (fun _ _ _ => none))
def D_Reader_isName (N : Nat) (n pc : Nat) (lv : ML) (st : List MV) (h : MH) : Option (Int32 × MH) :=
  match Nat.beq pc 0 with
  | true => (match lk lv 0, st with
    | some (.inr (.inr (0, 7, 3))), [] => f_Reader_isName N h
    | _, _ => none)
  | false => none
set_option maxRecDepth 1000000 in
theorem E_Reader_isName_0 (N : Nat) (n : Nat) (h : MH) : seg (C_Reader_isName N) 1 1 rI T_Reader_isName [0] (fun q lv st h => match Nat.ble 1 q with
    | true => D_Reader_isName N n q lv st h
    | false => none) 400 true 0 [(0, .inr (.inr (0, 7, 3)))] [] h = f_Reader_isName N h := (rfl)
def T_Reader_seesNewName : List (List (Option RW)) := [
  [some (.aload_n 0, 1, [0], 0, 0), some (.invokevirtual 129, 3, [0, 64, 1, 0], 0, 0), none, none, some (.ifCond .ne 13, 3, [17], 0, 0), none, none, some (.aload_n 0, 1, [0], 0, 0), some (.iconst 2, 1, [], 2, 0), some (.aload_n 0, 1, [0], 0, 0), some (.getfield 25, 3, [7, 4, 0], 0, 0), none, none, some (.invokevirtual 85, 3, [0, 56, 3, 0], 0, 0), none, none, some (.ireturn, 1, [], 0, 0), some (.aload_n 0, 1, [0], 0, 0), some (.getfield 50, 3, [7, 10, 2, 0, 5, 8], 0, 0), none, none, some (.aload_n 0, 1, [0], 0, 0), some (.getfield 9, 3, [7, 0, 2, 3, 600, 1], 0, 0), none, none, some (.aload_n 0, 1, [0], 0, 0), some (.getfield 25, 3, [7, 4, 0], 0, 0), none, none, some (.aload_n 0, 1, [0], 0, 0), some (.getfield 28, 3, [7, 5, 0], 0, 0), none],
  [none, some (.invokevirtual 132, 3, [1, 43, 4, 0], 0, 0), none, none, some (.ifCond .lt 15, 3, [51], 0, 0), none, none, some (.aload_n 0, 1, [0], 0, 0), some (.iconst 3, 1, [], 3, 0), some (.aload_n 0, 1, [0], 0, 0), some (.getfield 25, 3, [7, 4, 0], 0, 0), none, none, some (.invokevirtual 85, 3, [0, 56, 3, 0], 0, 0), none, none, some (.ifCond .eq 7, 3, [55], 0, 0), none, none, some (.iconst 1, 1, [], 1, 0), some (.goto 4, 3, [56], 0, 0), none, none, some (.iconst 0, 1, [], 0, 0), some (.ireturn, 1, [], 0, 0)]]
def f_Reader_seesNewName (N : Nat) (h : MH) : Option (Int32 × MH) :=
  (f_Reader_isName N h).bind (fun x1 =>
  if x1.1 = 0 then
  ((f_Reader_fail N 2 (gI x1.2 3 4) x1.2).bind (fun x2 =>
  match narOK 1 x2.1 with
  | true => some (x2.1, x2.2)
  | false => none))
  else
  ((f_Names_find N (gI x1.2 3 4) (gI x1.2 3 5) x1.2).bind (fun x3 =>
  if x3.1 < 0 then
  (some (1, x3.2))
  else
  ((f_Reader_fail N 3 (gI x3.2 3 4) x3.2).bind (fun x4 =>
  if x4.1 = 0 then
  (some (0, x4.2))
  else
  (some (1, x4.2)))))))
def C_Reader_seesNewName (N : Nat) : MC := (KDL, false, (fun _ => 0), jsB, (fun j => match Nat.beq j 43 with
    | true => w_Names_find (f_Names_find N)
    | false => match Nat.beq j 56 with
    | true => w_Reader_fail (f_Reader_fail N)
    | false => match Nat.beq j 64 with
    | true => w_Reader_isName (f_Reader_isName N)
    | false => fun _ _ => none), (fun _ _ _ => none), (fun _ _ _ => none), (fun _ _ _ => none))
def D_Reader_seesNewName (N : Nat) (n pc : Nat) (lv : ML) (st : List MV) (h : MH) : Option (Int32 × MH) :=
  match Nat.beq pc 0 with
  | true => (match lk lv 0, st with
    | some (.inr (.inr (0, 7, 3))), [] => f_Reader_seesNewName N h
    | _, _ => none)
  | false => none
set_option maxRecDepth 1000000 in
theorem E_Reader_seesNewName_0 (N : Nat) (n : Nat) (h : MH) : seg (C_Reader_seesNewName N) 1 1 rI T_Reader_seesNewName [0] (fun q lv st h => match Nat.ble 1 q with
    | true => D_Reader_seesNewName N n q lv st h
    | false => none) 400 true 0 [(0, .inr (.inr (0, 7, 3)))] [] h = f_Reader_seesNewName N h := (rfl)
def T_Reader_readSheet : List (List (Option RW)) := [
  [some (.aload_n 0, 1, [0], 0, 0), some (.invokevirtual 65, 3, [0, 57, 1, 3], 0, 0), none, none, some (.aload_n 0, 1, [0], 0, 0), some (.getfield 25, 3, [7, 4, 0], 0, 0), none, none, some (.istore_n 1, 1, [1], 0, 0), some (.aload_n 0, 1, [0], 0, 0), some (.getfield 28, 3, [7, 5, 0], 0, 0), none, none, some (.istore_n 2, 1, [2], 0, 0), some (.aload_n 0, 1, [0], 0, 0), some (.invokevirtual 161, 3, [0, 68, 1, 0], 0, 0), none, none, some (.ifCond .ne 5, 3, [23], 0, 0), none, none, some (.iconst 0, 1, [], 0, 0), some (.ireturn, 1, [], 0, 0), some (.aload_n 0, 1, [0], 0, 0), some (.invokevirtual 65, 3, [0, 57, 1, 3], 0, 0), none, none, some (.aload_n 0, 1, [0], 0, 0), some (.ldc 105, 2, [1], 0, 0), none, some (.invokevirtual 164, 3, [0, 65, 2, 0], 0, 0), none],
  [none, some (.ifCond .eq 13, 3, [46], 0, 0), none, none, some (.aload_n 0, 1, [0], 0, 0), some (.iconst 1, 1, [], 1, 0), some (.bipush 6, 2, [], 6, 0), none, some (.invokevirtual 140, 3, [0, 66, 3, 0], 0, 0), none, none, some (.ifCond .ne 5, 3, [48], 0, 0), none, none, some (.iconst 0, 1, [], 0, 0), some (.ireturn, 1, [], 0, 0), some (.aload_n 0, 1, [0], 0, 0), some (.getfield 31, 3, [7, 6, 0], 0, 0), none, none, some (.istore_n 3, 1, [3], 0, 0), some (.aload_n 0, 1, [0], 0, 0), some (.getfield 43, 3, [7, 9, 3, 0, 2], 0, 0), none, none, some (.getfield 167, 3, [2, 0, 0], 0, 0), none, none, some (.iload_n 3, 1, [3], 0, 0), some (.iadd, 1, [], 0, 0), some (.bipush 6, 2, [], 6, 0), none],
  [some (.if_icmp .le 14, 3, [78], 0, 0), none, none, some (.aload_n 0, 1, [0], 0, 0), some (.bipush 6, 2, [], 6, 0), none, some (.aload_n 0, 1, [0], 0, 0), some (.getfield 25, 3, [7, 4, 0], 0, 0), none, none, some (.invokevirtual 85, 3, [0, 56, 3, 0], 0, 0), none, none, some (.ireturn, 1, [], 0, 0), some (.aload_n 0, 1, [0], 0, 0), some (.invokevirtual 65, 3, [0, 57, 1, 3], 0, 0), none, none, some (.aload_n 0, 1, [0], 0, 0), some (.ldc 107, 2, [2], 0, 0), none, some (.invokevirtual 164, 3, [0, 65, 2, 0], 0, 0), none, none, some (.ifCond .eq 14, 3, [102], 0, 0), none, none, some (.aload_n 0, 1, [0], 0, 0), some (.iconst 0, 1, [], 0, 0), some (.sipush 999, 3, [], 999, 0), none, none],
  [some (.invokevirtual 140, 3, [0, 66, 3, 0], 0, 0), none, none, some (.ifCond .ne 5, 3, [104], 0, 0), none, none, some (.iconst 0, 1, [], 0, 0), some (.ireturn, 1, [], 0, 0), some (.aload_n 0, 1, [0], 0, 0), some (.getfield 31, 3, [7, 6, 0], 0, 0), none, none, some (.istore 4, 2, [4], 0, 0), none, some (.aload_n 0, 1, [0], 0, 0), some (.invokevirtual 65, 3, [0, 57, 1, 3], 0, 0), none, none, some (.aload_n 0, 1, [0], 0, 0), some (.invokevirtual 169, 3, [0, 67, 1, 0], 0, 0), none, none, some (.ifCond .ne 5, 3, [123], 0, 0), none, none, some (.iconst 0, 1, [], 0, 0), some (.ireturn, 1, [], 0, 0), some (.aload_n 0, 1, [0], 0, 0), some (.getfield 50, 3, [7, 10, 2, 0, 5, 8], 0, 0), none, none, some (.iload_n 1, 1, [1], 0, 0)],
  [some (.iload_n 2, 1, [2], 0, 0), some (.aload_n 0, 1, [0], 0, 0), some (.getfield 43, 3, [7, 9, 3, 0, 2], 0, 0), none, none, some (.getfield 167, 3, [2, 0, 0], 0, 0), none, none, some (.iload_n 3, 1, [3], 0, 0), some (.invokevirtual 172, 3, [1, 42, 5, 3], 0, 0), none, none, some (.aload_n 0, 1, [0], 0, 0), some (.getfield 43, 3, [7, 9, 3, 0, 2], 0, 0), none, none, some (.iload_n 3, 1, [3], 0, 0), some (.iload 4, 2, [4], 0, 0), none, some (.invokevirtual 176, 3, [1, 14, 3, 3], 0, 0), none, none, some (.iconst 1, 1, [], 1, 0), some (.ireturn, 1, [], 0, 0)]]
def f_Reader_readSheet (N : Nat) (h : MH) : Option (Int32 × MH) :=
  (f_Reader_advance N h).bind (fun x1 =>
  let v2 : Int32 := gI x1 3 4
  let v3 : Int32 := gI x1 3 5
  (f_Reader_seesNewName N x1).bind (fun x4 =>
  if x4.1 = 0 then
  (some (0, x4.2))
  else
  ((f_Reader_advance N x4.2).bind (fun x5 =>
  (f_Reader_passWord N 1 x5).bind (fun x6 =>
  if x6.1 = 0 then
  (some (0, x6.2))
  else
  ((f_Reader_seesNumber N 1 6 x6.2).bind (fun x7 =>
  if x7.1 = 0 then
  (some (0, x7.2))
  else
  (let v8 : Int32 := gI x7.2 3 6
  if ((gI x7.2 (gR x7.2 3 9) 0) + v8) ≤ 6 then
  ((f_Reader_advance N x7.2).bind (fun x9 =>
  (f_Reader_passWord N 2 x9).bind (fun x10 =>
  if x10.1 = 0 then
  (some (0, x10.2))
  else
  ((f_Reader_seesNumber N 0 999 x10.2).bind (fun x11 =>
  if x11.1 = 0 then
  (some (0, x11.2))
  else
  (let v12 : Int32 := gI x11.2 3 6
  (f_Reader_advance N x11.2).bind (fun x13 =>
  (f_Reader_seesEnd N x13).bind (fun x14 =>
  if x14.1 = 0 then
  (some (0, x14.2))
  else
  ((f_Names_add N v2 v3 (gI x14.2 (gR x14.2 3 9) 0) v8 x14.2).bind (fun x15 =>
  (f_Land_addCells N (gR x15 3 9) v8 v12 x15).bind (fun x16 =>
  some (1, x16))))))))))))
  else
  ((f_Reader_fail N 6 (gI x7.2 3 4) x7.2).bind (fun x17 =>
  match narOK 1 x17.1 with
  | true => some (x17.1, x17.2)
  | false => none))))))))))
def C_Reader_readSheet (N : Nat) : MC := (KDL, false, (fun _ => 0), jsB, (fun j => match Nat.beq j 56 with
    | true => w_Reader_fail (f_Reader_fail N)
    | false => match Nat.beq j 65 with
    | true => w_Reader_passWord (f_Reader_passWord N)
    | false => match Nat.beq j 66 with
    | true => w_Reader_seesNumber (f_Reader_seesNumber N)
    | false => match Nat.beq j 67 with
    | true => w_Reader_seesEnd (f_Reader_seesEnd N)
    | false => match Nat.beq j 68 with
    | true => w_Reader_seesNewName (f_Reader_seesNewName N)
    | false => fun _ _ => none), (fun _ _ _ => none), (fun _ _ _ => none), (fun j => match Nat.beq j 14 with
    | true => w_Land_addCells (f_Land_addCells N)
    | false => match Nat.beq j 42 with
    | true => w_Names_add (f_Names_add N)
    | false => match Nat.beq j 57 with
    | true => w_Reader_advance (f_Reader_advance N)
    | false => fun _ _ => none))
def D_Reader_readSheet (N : Nat) (n pc : Nat) (lv : ML) (st : List MV) (h : MH) : Option (Int32 × MH) :=
  match Nat.beq pc 0 with
  | true => (match lk lv 0, st with
    | some (.inr (.inr (0, 7, 3))), [] => f_Reader_readSheet N h
    | _, _ => none)
  | false => none
set_option maxRecDepth 1000000 in
theorem E_Reader_readSheet_0 (N : Nat) (n : Nat) (h : MH) : seg (C_Reader_readSheet N) 5 1 rI T_Reader_readSheet [0] (fun q lv st h => match Nat.ble 1 q with
    | true => D_Reader_readSheet N n q lv st h
    | false => none) 400 true 0 [(0, .inr (.inr (0, 7, 3)))] [] h = f_Reader_readSheet N h := (rfl)
def T_Reader_readMark : List (List (Option RW)) := [
  [some (.aload_n 0, 1, [0], 0, 0), some (.invokevirtual 65, 3, [0, 57, 1, 3], 0, 0), none, none, some (.aload_n 0, 1, [0], 0, 0), some (.getfield 25, 3, [7, 4, 0], 0, 0), none, none, some (.istore_n 1, 1, [1], 0, 0), some (.aload_n 0, 1, [0], 0, 0), some (.getfield 28, 3, [7, 5, 0], 0, 0), none, none, some (.istore_n 2, 1, [2], 0, 0), some (.aload_n 0, 1, [0], 0, 0), some (.invokevirtual 161, 3, [0, 68, 1, 0], 0, 0), none, none, some (.ifCond .ne 5, 3, [23], 0, 0), none, none, some (.iconst 0, 1, [], 0, 0), some (.ireturn, 1, [], 0, 0), some (.aload_n 0, 1, [0], 0, 0), some (.getfield 43, 3, [7, 9, 3, 0, 2], 0, 0), none, none, some (.getfield 180, 3, [2, 1, 0], 0, 0), none, none, some (.bipush 8, 2, [], 8, 0), none],
  [some (.if_icmp .lt 14, 3, [46], 0, 0), none, none, some (.aload_n 0, 1, [0], 0, 0), some (.bipush 6, 2, [], 6, 0), none, some (.aload_n 0, 1, [0], 0, 0), some (.getfield 25, 3, [7, 4, 0], 0, 0), none, none, some (.invokevirtual 85, 3, [0, 56, 3, 0], 0, 0), none, none, some (.ireturn, 1, [], 0, 0), some (.aload_n 0, 1, [0], 0, 0), some (.invokevirtual 65, 3, [0, 57, 1, 3], 0, 0), none, none, some (.aload_n 0, 1, [0], 0, 0), some (.invokevirtual 169, 3, [0, 67, 1, 0], 0, 0), none, none, some (.ifCond .ne 5, 3, [59], 0, 0), none, none, some (.iconst 0, 1, [], 0, 0), some (.ireturn, 1, [], 0, 0), some (.aload_n 0, 1, [0], 0, 0), some (.getfield 50, 3, [7, 10, 2, 0, 5, 8], 0, 0), none, none, some (.iload_n 1, 1, [1], 0, 0)],
  [some (.iload_n 2, 1, [2], 0, 0), some (.aload_n 0, 1, [0], 0, 0), some (.getfield 43, 3, [7, 9, 3, 0, 2], 0, 0), none, none, some (.getfield 180, 3, [2, 1, 0], 0, 0), none, none, some (.iconst 0, 1, [], 0, 0), some (.invokevirtual 172, 3, [1, 42, 5, 3], 0, 0), none, none, some (.aload_n 0, 1, [0], 0, 0), some (.getfield 43, 3, [7, 9, 3, 0, 2], 0, 0), none, none, some (.dup, 1, [], 0, 0), some (.getfield 180, 3, [2, 1, 0], 0, 0), none, none, some (.iconst 1, 1, [], 1, 0), some (.iadd, 1, [], 0, 0), some (.putfield 180, 3, [2, 1, 0], 0, 0), none, none, some (.iconst 1, 1, [], 1, 0), some (.ireturn, 1, [], 0, 0)]]
def f_Reader_readMark (N : Nat) (h : MH) : Option (Int32 × MH) :=
  (f_Reader_advance N h).bind (fun x1 =>
  let v2 : Int32 := gI x1 3 4
  let v3 : Int32 := gI x1 3 5
  (f_Reader_seesNewName N x1).bind (fun x4 =>
  if x4.1 = 0 then
  (some (0, x4.2))
  else
  (if (gI x4.2 (gR x4.2 3 9) 1) < 8 then
  ((f_Reader_advance N x4.2).bind (fun x5 =>
  (f_Reader_seesEnd N x5).bind (fun x6 =>
  if x6.1 = 0 then
  (some (0, x6.2))
  else
  ((f_Names_add N v2 v3 (gI x6.2 (gR x6.2 3 9) 1) 0 x6.2).bind (fun x7 =>
  let h8 : MH := sI x7 (gR x7 3 9) 1 ((gI x7 (gR x7 3 9) 1) + 1)
  some (1, h8))))))
  else
  ((f_Reader_fail N 6 (gI x4.2 3 4) x4.2).bind (fun x9 =>
  match narOK 1 x9.1 with
  | true => some (x9.1, x9.2)
  | false => none)))))
def C_Reader_readMark (N : Nat) : MC := (KDL, false, (fun _ => 0), jsB, (fun j => match Nat.beq j 56 with
    | true => w_Reader_fail (f_Reader_fail N)
    | false => match Nat.beq j 67 with
    | true => w_Reader_seesEnd (f_Reader_seesEnd N)
    | false => match Nat.beq j 68 with
    | true => w_Reader_seesNewName (f_Reader_seesNewName N)
    | false => fun _ _ => none), (fun _ _ _ => none), (fun _ _ _ => none), (fun j => match Nat.beq j 42 with
    | true => w_Names_add (f_Names_add N)
    | false => match Nat.beq j 57 with
    | true => w_Reader_advance (f_Reader_advance N)
    | false => fun _ _ => none))
def D_Reader_readMark (N : Nat) (n pc : Nat) (lv : ML) (st : List MV) (h : MH) : Option (Int32 × MH) :=
  match Nat.beq pc 0 with
  | true => (match lk lv 0, st with
    | some (.inr (.inr (0, 7, 3))), [] => f_Reader_readMark N h
    | _, _ => none)
  | false => none
set_option maxRecDepth 1000000 in
theorem E_Reader_readMark_0 (N : Nat) (n : Nat) (h : MH) : seg (C_Reader_readMark N) 3 1 rI T_Reader_readMark [0] (fun q lv st h => match Nat.ble 1 q with
    | true => D_Reader_readMark N n q lv st h
    | false => none) 400 true 0 [(0, .inr (.inr (0, 7, 3)))] [] h = f_Reader_readMark N h := (rfl)
def T_Reader_seeCell : List (List (Option RW)) := [
  [some (.aload_n 0, 1, [0], 0, 0), some (.invokevirtual 129, 3, [0, 64, 1, 0], 0, 0), none, none, some (.ifCond .ne 15, 3, [19], 0, 0), none, none, some (.aload_n 0, 1, [0], 0, 0), some (.iconst 2, 1, [], 2, 0), some (.aload_n 0, 1, [0], 0, 0), some (.getfield 25, 3, [7, 4, 0], 0, 0), none, none, some (.invokevirtual 85, 3, [0, 56, 3, 0], 0, 0), none, none, some (.pop, 1, [], 0, 0), some (.iconst (-1), 1, [], (-1), 0), some (.ireturn, 1, [], 0, 0), some (.aload_n 0, 1, [0], 0, 0), some (.getfield 50, 3, [7, 10, 2, 0, 5, 8], 0, 0), none, none, some (.aload_n 0, 1, [0], 0, 0), some (.getfield 9, 3, [7, 0, 2, 3, 600, 1], 0, 0), none, none, some (.aload_n 0, 1, [0], 0, 0), some (.getfield 25, 3, [7, 4, 0], 0, 0), none, none, some (.aload_n 0, 1, [0], 0, 0)],
  [some (.getfield 28, 3, [7, 5, 0], 0, 0), none, none, some (.invokevirtual 132, 3, [1, 43, 4, 0], 0, 0), none, none, some (.istore_n 1, 1, [1], 0, 0), some (.iload_n 1, 1, [1], 0, 0), some (.ifCond .lt 15, 3, [55], 0, 0), none, none, some (.aload_n 0, 1, [0], 0, 0), some (.getfield 50, 3, [7, 10, 2, 0, 5, 8], 0, 0), none, none, some (.getfield 136, 3, [5, 3, 2, 1, 14, 4], 0, 0), none, none, some (.iload_n 1, 1, [1], 0, 0), some (.iaload, 1, [], 0, 0), some (.ifCond .ne 15, 3, [67], 0, 0), none, none, some (.aload_n 0, 1, [0], 0, 0), some (.iconst 3, 1, [], 3, 0), some (.aload_n 0, 1, [0], 0, 0), some (.getfield 25, 3, [7, 4, 0], 0, 0), none, none, some (.invokevirtual 85, 3, [0, 56, 3, 0], 0, 0), none, none],
  [some (.pop, 1, [], 0, 0), some (.iconst (-1), 1, [], (-1), 0), some (.ireturn, 1, [], 0, 0), some (.aload_n 0, 1, [0], 0, 0), some (.invokevirtual 65, 3, [0, 57, 1, 3], 0, 0), none, none, some (.aload_n 0, 1, [0], 0, 0), some (.iconst 0, 1, [], 0, 0), some (.aload_n 0, 1, [0], 0, 0), some (.getfield 50, 3, [7, 10, 2, 0, 5, 8], 0, 0), none, none, some (.getfield 136, 3, [5, 3, 2, 1, 14, 4], 0, 0), none, none, some (.iload_n 1, 1, [1], 0, 0), some (.iaload, 1, [], 0, 0), some (.iconst 1, 1, [], 1, 0), some (.isub, 1, [], 0, 0), some (.invokevirtual 140, 3, [0, 66, 3, 0], 0, 0), none, none, some (.ifCond .eq 20, 3, [107], 0, 0), none, none, some (.aload_n 0, 1, [0], 0, 0), some (.getfield 50, 3, [7, 10, 2, 0, 5, 8], 0, 0), none, none, some (.getfield 143, 3, [5, 2, 2, 1, 14, 3], 0, 0), none],
  [none, some (.iload_n 1, 1, [1], 0, 0), some (.iaload, 1, [], 0, 0), some (.aload_n 0, 1, [0], 0, 0), some (.getfield 31, 3, [7, 6, 0], 0, 0), none, none, some (.iadd, 1, [], 0, 0), some (.goto 4, 3, [108], 0, 0), none, none, some (.iconst (-1), 1, [], (-1), 0), some (.ireturn, 1, [], 0, 0)]]
def f_Reader_seeCell (N : Nat) (h : MH) : Option (Int32 × MH) :=
  (f_Reader_isName N h).bind (fun x1 =>
  if x1.1 = 0 then
  ((f_Reader_fail N 2 (gI x1.2 3 4) x1.2).bind (fun x2 =>
  some ((-1), x2.2)))
  else
  ((f_Names_find N (gI x1.2 3 4) (gI x1.2 3 5) x1.2).bind (fun x3 =>
  if x3.1 < 0 then
  ((f_Reader_fail N 3 (gI x3.2 3 4) x3.2).bind (fun x4 =>
  some ((-1), x4.2)))
  else
  (if inB x3.1 14 = true then
  (if (gI x3.2 15 (iN x3.1)) = 0 then
  ((f_Reader_fail N 3 (gI x3.2 3 4) x3.2).bind (fun x5 =>
  some ((-1), x5.2)))
  else
  ((f_Reader_advance N x3.2).bind (fun x6 =>
  if inB x3.1 14 = true then
  ((f_Reader_seesNumber N 0 ((gI x6 15 (iN x3.1)) - 1) x6).bind (fun x7 =>
  if x7.1 = 0 then
  (some ((-1), x7.2))
  else
  (if inB x3.1 14 = true then
  (some ((gI x7.2 14 (iN x3.1)) + (gI x7.2 3 6), x7.2))
  else none)))
  else none)))
  else none))))
def C_Reader_seeCell (N : Nat) : MC := (KDL, false, (fun _ => 0), jsB, (fun j => match Nat.beq j 43 with
    | true => w_Names_find (f_Names_find N)
    | false => match Nat.beq j 56 with
    | true => w_Reader_fail (f_Reader_fail N)
    | false => match Nat.beq j 64 with
    | true => w_Reader_isName (f_Reader_isName N)
    | false => match Nat.beq j 66 with
    | true => w_Reader_seesNumber (f_Reader_seesNumber N)
    | false => fun _ _ => none), (fun _ _ _ => none), (fun _ _ _ => none), (fun j => match Nat.beq j 57 with
    | true => w_Reader_advance (f_Reader_advance N)
    | false => fun _ _ => none))
def D_Reader_seeCell (N : Nat) (n pc : Nat) (lv : ML) (st : List MV) (h : MH) : Option (Int32 × MH) :=
  match Nat.beq pc 0 with
  | true => (match lk lv 0, st with
    | some (.inr (.inr (0, 7, 3))), [] => f_Reader_seeCell N h
    | _, _ => none)
  | false => none
set_option maxRecDepth 1000000 in
theorem E_Reader_seeCell_0 (N : Nat) (n : Nat) (h : MH) : seg (C_Reader_seeCell N) 2 0 rI T_Reader_seeCell [0] (fun q lv st h => match Nat.ble 1 q with
    | true => D_Reader_seeCell N n q lv st h
    | false => none) 400 true 0 [(0, .inr (.inr (0, 7, 3)))] [] h = f_Reader_seeCell N h := (rfl)
def T_Reader_readNear : List (List (Option RW)) := [
  [some (.aload_n 0, 1, [0], 0, 0), some (.invokevirtual 65, 3, [0, 57, 1, 3], 0, 0), none, none, some (.aload_n 0, 1, [0], 0, 0), some (.invokevirtual 183, 3, [0, 69, 1, 0], 0, 0), none, none, some (.istore_n 2, 1, [2], 0, 0), some (.iload_n 2, 1, [2], 0, 0), some (.ifCond .ge 5, 3, [15], 0, 0), none, none, some (.iconst 0, 1, [], 0, 0), some (.ireturn, 1, [], 0, 0), some (.aload_n 0, 1, [0], 0, 0), some (.invokevirtual 65, 3, [0, 57, 1, 3], 0, 0), none, none, some (.aload_n 0, 1, [0], 0, 0), some (.invokevirtual 183, 3, [0, 69, 1, 0], 0, 0), none, none, some (.istore_n 3, 1, [3], 0, 0), some (.iload_n 3, 1, [3], 0, 0), some (.ifCond .ge 5, 3, [30], 0, 0), none, none, some (.iconst 0, 1, [], 0, 0), some (.ireturn, 1, [], 0, 0), some (.iload_n 3, 1, [3], 0, 0), some (.iload_n 2, 1, [2], 0, 0)],
  [some (.if_icmp .ne 13, 3, [45], 0, 0), none, none, some (.aload_n 0, 1, [0], 0, 0), some (.iconst 4, 1, [], 4, 0), some (.aload_n 0, 1, [0], 0, 0), some (.getfield 25, 3, [7, 4, 0], 0, 0), none, none, some (.invokevirtual 85, 3, [0, 56, 3, 0], 0, 0), none, none, some (.ireturn, 1, [], 0, 0), some (.aload_n 0, 1, [0], 0, 0), some (.invokevirtual 65, 3, [0, 57, 1, 3], 0, 0), none, none, some (.aload_n 0, 1, [0], 0, 0), some (.invokevirtual 169, 3, [0, 67, 1, 0], 0, 0), none, none, some (.ifCond .ne 5, 3, [58], 0, 0), none, none, some (.iconst 0, 1, [], 0, 0), some (.ireturn, 1, [], 0, 0), some (.aload_n 0, 1, [0], 0, 0), some (.getfield 43, 3, [7, 9, 3, 0, 2], 0, 0), none, none, some (.iload_n 2, 1, [2], 0, 0), some (.iload_n 3, 1, [3], 0, 0)],
  [some (.invokevirtual 186, 3, [1, 16, 3, 0], 0, 0), none, none, some (.ifCond .eq 11, 3, [78], 0, 0), none, none, some (.aload_n 0, 1, [0], 0, 0), some (.bipush 6, 2, [], 6, 0), none, some (.iload_n 1, 1, [1], 0, 0), some (.invokevirtual 85, 3, [0, 56, 3, 0], 0, 0), none, none, some (.ireturn, 1, [], 0, 0), some (.aload_n 0, 1, [0], 0, 0), some (.getfield 43, 3, [7, 9, 3, 0, 2], 0, 0), none, none, some (.getfield 189, 3, [2, 3, 2, 1, 6, 2], 0, 0), none, none, some (.iload_n 2, 1, [2], 0, 0), some (.dup2, 1, [], 0, 0), some (.iaload, 1, [], 0, 0), some (.iconst 1, 1, [], 1, 0), some (.iload_n 3, 1, [3], 0, 0), some (.ishl, 1, [], 0, 0), some (.ior, 1, [], 0, 0), some (.iastore, 1, [], 0, 0), some (.aload_n 0, 1, [0], 0, 0), some (.getfield 43, 3, [7, 9, 3, 0, 2], 0, 0), none],
  [none, some (.getfield 189, 3, [2, 3, 2, 1, 6, 2], 0, 0), none, none, some (.iload_n 3, 1, [3], 0, 0), some (.dup2, 1, [], 0, 0), some (.iaload, 1, [], 0, 0), some (.iconst 1, 1, [], 1, 0), some (.iload_n 2, 1, [2], 0, 0), some (.ishl, 1, [], 0, 0), some (.ior, 1, [], 0, 0), some (.iastore, 1, [], 0, 0), some (.iconst 1, 1, [], 1, 0), some (.ireturn, 1, [], 0, 0)]]
def f_Reader_readNear (N : Nat) (a1 : Int32) (h : MH) : Option (Int32 × MH) :=
  (f_Reader_advance N h).bind (fun x1 =>
  (f_Reader_seeCell N x1).bind (fun x2 =>
  if 0 ≤ x2.1 then
  ((f_Reader_advance N x2.2).bind (fun x3 =>
  (f_Reader_seeCell N x3).bind (fun x4 =>
  if 0 ≤ x4.1 then
  (if x4.1 = x2.1 then
  ((f_Reader_fail N 4 (gI x4.2 3 4) x4.2).bind (fun x5 =>
  match narOK 1 x5.1 with
  | true => some (x5.1, x5.2)
  | false => none))
  else
  ((f_Reader_advance N x4.2).bind (fun x6 =>
  (f_Reader_seesEnd N x6).bind (fun x7 =>
  if x7.1 = 0 then
  (some (0, x7.2))
  else
  ((f_Land_areNear N (gR x7.2 3 9) x2.1 x4.1 x7.2).bind (fun x8 =>
  if x8.1 = 0 then
  (if inB x2.1 6 = true then
  (if inB x2.1 6 = true then
  (let h9 : MH := sI x8.2 ((gR x8.2 3 9) + 2) (iN x2.1) ((gI x8.2 ((gR x8.2 3 9) + 2) (iN x2.1)) ||| ((1 : Int32) <<< (x4.1 &&& 31)))
  if inB x4.1 6 = true then
  (if inB x4.1 6 = true then
  (let h10 : MH := sI h9 ((gR h9 3 9) + 2) (iN x4.1) ((gI h9 ((gR h9 3 9) + 2) (iN x4.1)) ||| ((1 : Int32) <<< (x2.1 &&& 31)))
  some (1, h10))
  else none)
  else none)
  else none)
  else none)
  else
  ((f_Reader_fail N 6 a1 x8.2).bind (fun x11 =>
  match narOK 1 x11.1 with
  | true => some (x11.1, x11.2)
  | false => none))))))))
  else
  (some (0, x4.2)))))
  else
  (some (0, x2.2))))
def C_Reader_readNear (N : Nat) : MC := (KDL, false, (fun _ => 0), jsB, (fun j => match Nat.beq j 16 with
    | true => w_Land_areNear (f_Land_areNear N)
    | false => match Nat.beq j 56 with
    | true => w_Reader_fail (f_Reader_fail N)
    | false => match Nat.beq j 67 with
    | true => w_Reader_seesEnd (f_Reader_seesEnd N)
    | false => match Nat.beq j 69 with
    | true => w_Reader_seeCell (f_Reader_seeCell N)
    | false => fun _ _ => none), (fun _ _ _ => none), (fun _ _ _ => none), (fun j => match Nat.beq j 57 with
    | true => w_Reader_advance (f_Reader_advance N)
    | false => fun _ _ => none))
def D_Reader_readNear (N : Nat) (n pc : Nat) (lv : ML) (st : List MV) (h : MH) : Option (Int32 × MH) :=
  match Nat.beq pc 0 with
  | true => (match lk lv 0, lk lv 1, st with
    | some (.inr (.inr (0, 7, 3))), some (.inl a1), [] => f_Reader_readNear N a1 h
    | _, _, _ => none)
  | false => none
set_option maxRecDepth 1000000 in
theorem E_Reader_readNear_0 (N : Nat) (n : Nat) (a1 : Int32) (h : MH) : seg (C_Reader_readNear N) 4 1 rI T_Reader_readNear [0] (fun q lv st h => match Nat.ble 1 q with
    | true => D_Reader_readNear N n q lv st h
    | false => none) 400 true 0 [(0, .inr (.inr (0, 7, 3))), (1, .inl a1)] [] h = f_Reader_readNear N a1 h := (rfl)
def T_Reader_readAtom : List (List (Option RW)) := [
  [some (.aload_n 0, 1, [0], 0, 0), some (.bipush 45, 2, [], 45, 0), none, some (.invokevirtual 125, 3, [0, 62, 2, 0], 0, 0), none, none, some (.istore_n 2, 1, [2], 0, 0), some (.aload_n 0, 1, [0], 0, 0), some (.getfield 22, 3, [7, 3, 0], 0, 0), none, none, some (.iconst 2, 1, [], 2, 0), some (.if_icmp .ne 15, 3, [27], 0, 0), none, none, some (.aload_n 0, 1, [0], 0, 0), some (.getfield 31, 3, [7, 6, 0], 0, 0), none, none, some (.i2l, 1, [], 0, 0), some (.lstore_n 3, 1, [3], 0, 0), some (.aload_n 0, 1, [0], 0, 0), some (.invokevirtual 65, 3, [0, 57, 1, 3], 0, 0), none, none, some (.lload_n 3, 1, [3], 0, 0), some (.lreturn, 1, [], 0, 0), some (.iload_n 2, 1, [2], 0, 0), some (.ifCond .ne 24, 3, [52], 0, 0), none, none, some (.aload_n 0, 1, [0], 0, 0)],
  [some (.bipush 40, 2, [], 40, 0), none, some (.invokevirtual 125, 3, [0, 62, 2, 0], 0, 0), none, none, some (.ifCond .ne 15, 3, [52], 0, 0), none, none, some (.aload_n 0, 1, [0], 0, 0), some (.iconst 2, 1, [], 2, 0), some (.aload_n 0, 1, [0], 0, 0), some (.getfield 25, 3, [7, 4, 0], 0, 0), none, none, some (.invokevirtual 85, 3, [0, 56, 3, 0], 0, 0), none, none, some (.pop, 1, [], 0, 0), some (.lconst 0, 1, [], 0, 0), some (.lreturn, 1, [], 0, 0), some (.iload_n 1, 1, [1], 0, 0), some (.bipush 6, 2, [], 6, 0), none, some (.if_icmp .lt 15, 3, [70], 0, 0), none, none, some (.aload_n 0, 1, [0], 0, 0), some (.iconst 5, 1, [], 5, 0), some (.aload_n 0, 1, [0], 0, 0), some (.getfield 25, 3, [7, 4, 0], 0, 0), none, none],
  [some (.invokevirtual 85, 3, [0, 56, 3, 0], 0, 0), none, none, some (.pop, 1, [], 0, 0), some (.lconst 0, 1, [], 0, 0), some (.lreturn, 1, [], 0, 0), some (.aload_n 0, 1, [0], 0, 0), some (.invokevirtual 65, 3, [0, 57, 1, 3], 0, 0), none, none, some (.iload_n 2, 1, [2], 0, 0), some (.ifCond .eq 12, 3, [87], 0, 0), none, none, some (.aload_n 0, 1, [0], 0, 0), some (.iload_n 1, 1, [1], 0, 0), some (.iconst 1, 1, [], 1, 0), some (.iadd, 1, [], 0, 0), some (.invokevirtual 211, 3, [0, 78, 2, 1], 0, 0), none, none, some (.lneg, 1, [], 0, 0), some (.lreturn, 1, [], 0, 0), some (.aload_n 0, 1, [0], 0, 0), some (.iload_n 1, 1, [1], 0, 0), some (.iconst 1, 1, [], 1, 0), some (.iadd, 1, [], 0, 0), some (.invokevirtual 191, 3, [0, 76, 2, 1], 0, 0), none, none, some (.lstore_n 3, 1, [3], 0, 0), some (.aload_n 0, 1, [0], 0, 0)],
  [some (.bipush 41, 2, [], 41, 0), none, some (.invokevirtual 125, 3, [0, 62, 2, 0], 0, 0), none, none, some (.ifCond .ne 15, 3, [116], 0, 0), none, none, some (.aload_n 0, 1, [0], 0, 0), some (.iconst 2, 1, [], 2, 0), some (.aload_n 0, 1, [0], 0, 0), some (.getfield 25, 3, [7, 4, 0], 0, 0), none, none, some (.invokevirtual 85, 3, [0, 56, 3, 0], 0, 0), none, none, some (.pop, 1, [], 0, 0), some (.lconst 0, 1, [], 0, 0), some (.lreturn, 1, [], 0, 0), some (.aload_n 0, 1, [0], 0, 0), some (.invokevirtual 65, 3, [0, 57, 1, 3], 0, 0), none, none, some (.lload_n 3, 1, [3], 0, 0), some (.lreturn, 1, [], 0, 0)]]
def F_Reader_readAtom_52 (N : Nat) (rc : (Int32 → MH → Option (Int64 × MH)) × (Int32 → MH → Option (Int64 × MH))) (a1 : Int32) (a2 : Int32) (h : MH) : Option (Int64 × MH) :=
  if a1 < 6 then
  ((f_Reader_advance N h).bind (fun x6 =>
  if a2 = 0 then
  ((rc.2 (a1 + 1) x6).bind (fun x7 =>
  (f_Reader_isSign N 41 x7.2).bind (fun x8 =>
  if x8.1 = 0 then
  ((f_Reader_fail N 2 (gI x8.2 3 4) x8.2).bind (fun x9 =>
  some (0, x9.2)))
  else
  ((f_Reader_advance N x8.2).bind (fun x10 =>
  some (x7.1, x10))))))
  else
  ((rc.1 (a1 + 1) x6).bind (fun x11 =>
  some (-x11.1, x11.2)))))
  else
  ((f_Reader_fail N 5 (gI h 3 4) h).bind (fun x12 =>
  some (0, x12.2)))
def g_Reader_readAtom (N : Nat) (rc : (Int32 → MH → Option (Int64 × MH)) × (Int32 → MH → Option (Int64 × MH))) (a1 : Int32) (h : MH) : Option (Int64 × MH) :=
  (f_Reader_isSign N 45 h).bind (fun x1 =>
  if (gI x1.2 3 3) = 2 then
  (let v2 : Int64 := ((gI x1.2 3 6)).toInt64
  (f_Reader_advance N x1.2).bind (fun x3 =>
  some (v2, x3)))
  else
  (if x1.1 = 0 then
  ((f_Reader_isSign N 40 x1.2).bind (fun x4 =>
  if x4.1 = 0 then
  ((f_Reader_fail N 2 (gI x4.2 3 4) x4.2).bind (fun x5 =>
  some (0, x5.2)))
  else
  (F_Reader_readAtom_52 N rc a1 x1.1 x4.2)))
  else
  (F_Reader_readAtom_52 N rc a1 x1.1 x1.2)))
def C_Reader_readAtom (N : Nat) (rc : (Int32 → MH → Option (Int64 × MH)) × (Int32 → MH → Option (Int64 × MH))) : MC := (KDL, false, (fun _ => 0), jsB, (fun j => match Nat.beq j 56 with
    | true => w_Reader_fail (f_Reader_fail N)
    | false => match Nat.beq j 62 with
    | true => w_Reader_isSign (f_Reader_isSign N)
    | false => fun _ _ => none), (fun j => match Nat.beq j 76 with
    | true => w_Reader_readSum (rc.2)
    | false => match Nat.beq j 78 with
    | true => w_Reader_readAtom (rc.1)
    | false => fun _ _ => none), (fun _ _ _ => none), (fun j => match Nat.beq j 57 with
    | true => w_Reader_advance (f_Reader_advance N)
    | false => fun _ _ => none))
def D_Reader_readAtom (N : Nat) (rc : (Int32 → MH → Option (Int64 × MH)) × (Int32 → MH → Option (Int64 × MH))) (n pc : Nat) (lv : ML) (st : List MV) (h : MH) : Option (Int64 × MH) :=
  match Nat.beq pc 0 with
  | true => (match lk lv 0, lk lv 1, st with
    | some (.inr (.inr (0, 7, 3))), some (.inl a1), [] => g_Reader_readAtom N rc a1 h
    | _, _, _ => none)
  | false => match Nat.beq pc 52 with
  | true => (match lk lv 0, lk lv 1, lk lv 2, st with
    | some (.inr (.inr (0, 7, 3))), some (.inl a1), some (.inl a2), [] => F_Reader_readAtom_52 N rc a1 a2 h
    | _, _, _, _ => none)
  | false => none
set_option maxRecDepth 1000000 in
theorem E_Reader_readAtom_0 (N : Nat) (rc : (Int32 → MH → Option (Int64 × MH)) × (Int32 → MH → Option (Int64 × MH))) (n : Nat) (a1 : Int32) (h : MH) : seg (C_Reader_readAtom N rc) 5 0 rJ T_Reader_readAtom [0, 52] (fun q lv st h => match Nat.ble 1 q with
    | true => D_Reader_readAtom N rc n q lv st h
    | false => none) 400 true 0 [(0, .inr (.inr (0, 7, 3))), (1, .inl a1)] [] h = g_Reader_readAtom N rc a1 h := (rfl)
set_option maxRecDepth 1000000 in
theorem E_Reader_readAtom_52 (N : Nat) (rc : (Int32 → MH → Option (Int64 × MH)) × (Int32 → MH → Option (Int64 × MH))) (n : Nat) (a1 : Int32) (a2 : Int32) (h : MH) : seg (C_Reader_readAtom N rc) 5 0 rJ T_Reader_readAtom [0, 52] (fun q lv st h => match Nat.ble 53 q with
    | true => D_Reader_readAtom N rc n q lv st h
    | false => none) 400 true 52 [(0, .inr (.inr (0, 7, 3))), (1, .inl a1), (2, .inl a2)] [] h = F_Reader_readAtom_52 N rc a1 a2 h := (rfl)
def T_Reader_readItem : List (List (Option RW)) := [
  [some (.aload_n 0, 1, [0], 0, 0), some (.iload_n 1, 1, [1], 0, 0), some (.invokevirtual 211, 3, [0, 78, 2, 1], 0, 0), none, none, some (.lstore_n 2, 1, [2], 0, 0), some (.iconst 0, 1, [], 0, 0), some (.istore 4, 2, [4], 0, 0), none, some (.iload 4, 2, [4], 0, 0), none, some (.sipush 600, 3, [], 600, 0), none, none, some (.if_icmp .ge 37, 3, [51], 0, 0), none, none, some (.aload_n 0, 1, [0], 0, 0), some (.getfield 34, 3, [7, 7, 0], 0, 0), none, none, some (.ifCond .ne 30, 3, [51], 0, 0), none, none, some (.aload_n 0, 1, [0], 0, 0), some (.bipush 42, 2, [], 42, 0), none, some (.invokevirtual 125, 3, [0, 62, 2, 0], 0, 0), none, none, some (.ifCond .eq 21, 3, [51], 0, 0), none],
  [none, some (.aload_n 0, 1, [0], 0, 0), some (.invokevirtual 65, 3, [0, 57, 1, 3], 0, 0), none, none, some (.lload_n 2, 1, [2], 0, 0), some (.aload_n 0, 1, [0], 0, 0), some (.iload_n 1, 1, [1], 0, 0), some (.invokevirtual 211, 3, [0, 78, 2, 1], 0, 0), none, none, some (.lmul, 1, [], 0, 0), some (.lstore_n 2, 1, [2], 0, 0), some (.iinc 4 1, 3, [4], 1, 0), none, none, some (.goto (-39), 3, [9], 0, 0), none, none, some (.lload_n 2, 1, [2], 0, 0), some (.lreturn, 1, [], 0, 0)]]
def F_Reader_readItem_9 (N : Nat) (rc : (Int32 → MH → Option (Int64 × MH))) (bk : (Int32 → Int64 → Int32 → MH → Option (Int64 × MH))) (a1 : Int32) (a2 : Int64) (a4 : Int32) (h : MH) : Option (Int64 × MH) :=
  if 600 ≤ a4 then
  (some (a2, h))
  else
  (if (gI h 3 7) = 0 then
  ((f_Reader_isSign N 42 h).bind (fun x2 =>
  if x2.1 = 0 then
  (some (a2, x2.2))
  else
  ((f_Reader_advance N x2.2).bind (fun x3 =>
  (rc a1 x3).bind (fun x4 =>
  let v5 : Int64 := a2 * x4.1
  let v6 : Int32 := a4 + 1
  bk a1 v5 v6 x4.2)))))
  else
  (some (a2, h)))
def F_Reader_readItem_0 (N : Nat) (rc : (Int32 → MH → Option (Int64 × MH))) (bk : (Int32 → Int64 → Int32 → MH → Option (Int64 × MH))) (a1 : Int32) (h : MH) : Option (Int64 × MH) :=
  (rc a1 h).bind (fun x1 =>
  F_Reader_readItem_9 N rc bk a1 x1.1 0 x1.2)
def L_Reader_readItem (N : Nat) (rc : (Int32 → MH → Option (Int64 × MH))) : Nat → (Int32 → Int64 → Int32 → MH → Option (Int64 × MH))
  | 0 => fun _ _ _ _ => none
  | n + 1 => F_Reader_readItem_9 N rc (L_Reader_readItem N rc n)
def g_Reader_readItem (N : Nat) (rc : (Int32 → MH → Option (Int64 × MH))) (a1 : Int32) (h : MH) : Option (Int64 × MH) := F_Reader_readItem_0 N rc (L_Reader_readItem N rc N) a1 h
def C_Reader_readItem (N : Nat) (rc : (Int32 → MH → Option (Int64 × MH))) : MC := (KDL, false, (fun _ => 0), jsB, (fun j => match Nat.beq j 62 with
    | true => w_Reader_isSign (f_Reader_isSign N)
    | false => fun _ _ => none), (fun j => match Nat.beq j 78 with
    | true => w_Reader_readAtom (rc)
    | false => fun _ _ => none), (fun _ _ _ => none), (fun j => match Nat.beq j 57 with
    | true => w_Reader_advance (f_Reader_advance N)
    | false => fun _ _ => none))
def D_Reader_readItem (N : Nat) (rc : (Int32 → MH → Option (Int64 × MH))) (n pc : Nat) (lv : ML) (st : List MV) (h : MH) : Option (Int64 × MH) :=
  match Nat.beq pc 0 with
  | true => (match lk lv 0, lk lv 1, st with
    | some (.inr (.inr (0, 7, 3))), some (.inl a1), [] => F_Reader_readItem_0 N rc (L_Reader_readItem N rc n) a1 h
    | _, _, _ => none)
  | false => match Nat.beq pc 9 with
  | true => (match lk lv 0, lk lv 1, lk lv 2, lk lv 4, st with
    | some (.inr (.inr (0, 7, 3))), some (.inl a1), some (.inr (.inl a2)), some (.inl a4), [] => F_Reader_readItem_9 N rc (L_Reader_readItem N rc n) a1 a2 a4 h
    | _, _, _, _, _ => none)
  | false => none
def B_Reader_readItem (N : Nat) (rc : (Int32 → MH → Option (Int64 × MH))) (n pc : Nat) (lv : ML) (st : List MV) (h : MH) : Option (Int64 × MH) :=
  match Nat.beq pc 9 with
  | true => (match lk lv 0, lk lv 1, lk lv 2, lk lv 4, st with
    | some (.inr (.inr (0, 7, 3))), some (.inl a1), some (.inr (.inl a2)), some (.inl a4), [] => ((L_Reader_readItem N rc n)) a1 a2 a4 h
    | _, _, _, _, _ => none)
  | false => none
set_option maxRecDepth 1000000 in
theorem E_Reader_readItem_0 (N : Nat) (rc : (Int32 → MH → Option (Int64 × MH))) (n : Nat) (a1 : Int32) (h : MH) : seg (C_Reader_readItem N rc) 5 0 rJ T_Reader_readItem [0, 9] (fun q lv st h => match Nat.ble 1 q with
    | true => D_Reader_readItem N rc n q lv st h
    | false => B_Reader_readItem N rc n q lv st h) 400 true 0 [(0, .inr (.inr (0, 7, 3))), (1, .inl a1)] [] h = F_Reader_readItem_0 N rc (L_Reader_readItem N rc n) a1 h := (rfl)
set_option maxRecDepth 1000000 in
theorem E_Reader_readItem_9 (N : Nat) (rc : (Int32 → MH → Option (Int64 × MH))) (n : Nat) (a1 : Int32) (a2 : Int64) (a4 : Int32) (h : MH) : seg (C_Reader_readItem N rc) 5 0 rJ T_Reader_readItem [0, 9] (fun q lv st h => match Nat.ble 10 q with
    | true => D_Reader_readItem N rc n q lv st h
    | false => B_Reader_readItem N rc n q lv st h) 400 true 9 [(0, .inr (.inr (0, 7, 3))), (1, .inl a1), (2, .inr (.inl a2)), (4, .inl a4)] [] h = F_Reader_readItem_9 N rc (L_Reader_readItem N rc n) a1 a2 a4 h := (rfl)
def T_Reader_readSum : List (List (Option RW)) := [
  [some (.aload_n 0, 1, [0], 0, 0), some (.iload_n 1, 1, [1], 0, 0), some (.invokevirtual 208, 3, [0, 77, 2, 1], 0, 0), none, none, some (.lstore_n 2, 1, [2], 0, 0), some (.iconst 0, 1, [], 0, 0), some (.istore 4, 2, [4], 0, 0), none, some (.iload 4, 2, [4], 0, 0), none, some (.sipush 600, 3, [], 600, 0), none, none, some (.if_icmp .ge 70, 3, [84], 0, 0), none, none, some (.aload_n 0, 1, [0], 0, 0), some (.getfield 34, 3, [7, 7, 0], 0, 0), none, none, some (.ifCond .ne 63, 3, [84], 0, 0), none, none, some (.aload_n 0, 1, [0], 0, 0), some (.bipush 43, 2, [], 43, 0), none, some (.invokevirtual 125, 3, [0, 62, 2, 0], 0, 0), none, none, some (.ifCond .ne 12, 3, [42], 0, 0), none],
  [none, some (.aload_n 0, 1, [0], 0, 0), some (.bipush 45, 2, [], 45, 0), none, some (.invokevirtual 125, 3, [0, 62, 2, 0], 0, 0), none, none, some (.ifCond .eq 45, 3, [84], 0, 0), none, none, some (.aload_n 0, 1, [0], 0, 0), some (.bipush 45, 2, [], 45, 0), none, some (.invokevirtual 125, 3, [0, 62, 2, 0], 0, 0), none, none, some (.istore 5, 2, [5], 0, 0), none, some (.aload_n 0, 1, [0], 0, 0), some (.invokevirtual 65, 3, [0, 57, 1, 3], 0, 0), none, none, some (.aload_n 0, 1, [0], 0, 0), some (.iload_n 1, 1, [1], 0, 0), some (.invokevirtual 208, 3, [0, 77, 2, 1], 0, 0), none, none, some (.lstore 6, 2, [6], 0, 0), none, some (.iload 5, 2, [5], 0, 0), none, some (.ifCond .eq 10, 3, [73], 0, 0)],
  [none, none, some (.lload_n 2, 1, [2], 0, 0), some (.lload 6, 2, [6], 0, 0), none, some (.lsub, 1, [], 0, 0), some (.goto 7, 3, [77], 0, 0), none, none, some (.lload_n 2, 1, [2], 0, 0), some (.lload 6, 2, [6], 0, 0), none, some (.ladd, 1, [], 0, 0), some (.lstore_n 2, 1, [2], 0, 0), some (.iinc 4 1, 3, [4], 1, 0), none, none, some (.goto (-72), 3, [9], 0, 0), none, none, some (.lload_n 2, 1, [2], 0, 0), some (.lreturn, 1, [], 0, 0)]]
def F_Reader_readSum_42 (N : Nat) (rc : (Int32 → MH → Option (Int64 × MH))) (bk : (Int32 → Int64 → Int32 → MH → Option (Int64 × MH))) (a1 : Int32) (a2 : Int64) (a4 : Int32) (h : MH) : Option (Int64 × MH) :=
  (f_Reader_isSign N 45 h).bind (fun x4 =>
  (f_Reader_advance N x4.2).bind (fun x5 =>
  (rc a1 x5).bind (fun x6 =>
  if x4.1 = 0 then
  (let v7 : Int64 := a2 + x6.1
  let v8 : Int32 := a4 + 1
  bk a1 v7 v8 x6.2)
  else
  (let v9 : Int64 := a2 - x6.1
  let v10 : Int32 := a4 + 1
  bk a1 v9 v10 x6.2))))
def F_Reader_readSum_9 (N : Nat) (rc : (Int32 → MH → Option (Int64 × MH))) (bk : (Int32 → Int64 → Int32 → MH → Option (Int64 × MH))) (a1 : Int32) (a2 : Int64) (a4 : Int32) (h : MH) : Option (Int64 × MH) :=
  if 600 ≤ a4 then
  (some (a2, h))
  else
  (if (gI h 3 7) = 0 then
  ((f_Reader_isSign N 43 h).bind (fun x2 =>
  if x2.1 = 0 then
  ((f_Reader_isSign N 45 x2.2).bind (fun x3 =>
  if x3.1 = 0 then
  (some (a2, x3.2))
  else
  (F_Reader_readSum_42 N rc bk a1 a2 a4 x3.2)))
  else
  (F_Reader_readSum_42 N rc bk a1 a2 a4 x2.2)))
  else
  (some (a2, h)))
def F_Reader_readSum_0 (N : Nat) (rc : (Int32 → MH → Option (Int64 × MH))) (bk : (Int32 → Int64 → Int32 → MH → Option (Int64 × MH))) (a1 : Int32) (h : MH) : Option (Int64 × MH) :=
  (rc a1 h).bind (fun x1 =>
  F_Reader_readSum_9 N rc bk a1 x1.1 0 x1.2)
def L_Reader_readSum (N : Nat) (rc : (Int32 → MH → Option (Int64 × MH))) : Nat → (Int32 → Int64 → Int32 → MH → Option (Int64 × MH))
  | 0 => fun _ _ _ _ => none
  | n + 1 => F_Reader_readSum_9 N rc (L_Reader_readSum N rc n)
def g_Reader_readSum (N : Nat) (rc : (Int32 → MH → Option (Int64 × MH))) (a1 : Int32) (h : MH) : Option (Int64 × MH) := F_Reader_readSum_0 N rc (L_Reader_readSum N rc N) a1 h
def f_Reader_readAtom (N : Nat) : Nat → Int32 → MH → Option (Int64 × MH)
  | 0 => fun _ _ => none
  | d + 1 => g_Reader_readAtom N (f_Reader_readAtom N d, g_Reader_readSum N (g_Reader_readItem N (f_Reader_readAtom N d)))
def f_Reader_readItem (N d : Nat) := g_Reader_readItem N (f_Reader_readAtom N d)
def f_Reader_readSum (N d : Nat) := g_Reader_readSum N (f_Reader_readItem N d)
def C_Reader_readSum (N : Nat) (rc : (Int32 → MH → Option (Int64 × MH))) : MC := (KDL, false, (fun _ => 0), jsB, (fun j => match Nat.beq j 62 with
    | true => w_Reader_isSign (f_Reader_isSign N)
    | false => fun _ _ => none), (fun j => match Nat.beq j 77 with
    | true => w_Reader_readItem (rc)
    | false => fun _ _ => none), (fun _ _ _ => none), (fun j => match Nat.beq j 57 with
    | true => w_Reader_advance (f_Reader_advance N)
    | false => fun _ _ => none))
def D_Reader_readSum (N : Nat) (rc : (Int32 → MH → Option (Int64 × MH))) (n pc : Nat) (lv : ML) (st : List MV) (h : MH) : Option (Int64 × MH) :=
  match Nat.beq pc 0 with
  | true => (match lk lv 0, lk lv 1, st with
    | some (.inr (.inr (0, 7, 3))), some (.inl a1), [] => F_Reader_readSum_0 N rc (L_Reader_readSum N rc n) a1 h
    | _, _, _ => none)
  | false => match Nat.beq pc 9 with
  | true => (match lk lv 0, lk lv 1, lk lv 2, lk lv 4, st with
    | some (.inr (.inr (0, 7, 3))), some (.inl a1), some (.inr (.inl a2)), some (.inl a4), [] => F_Reader_readSum_9 N rc (L_Reader_readSum N rc n) a1 a2 a4 h
    | _, _, _, _, _ => none)
  | false => match Nat.beq pc 42 with
  | true => (match lk lv 0, lk lv 1, lk lv 2, lk lv 4, st with
    | some (.inr (.inr (0, 7, 3))), some (.inl a1), some (.inr (.inl a2)), some (.inl a4), [] => F_Reader_readSum_42 N rc (L_Reader_readSum N rc n) a1 a2 a4 h
    | _, _, _, _, _ => none)
  | false => none
def B_Reader_readSum (N : Nat) (rc : (Int32 → MH → Option (Int64 × MH))) (n pc : Nat) (lv : ML) (st : List MV) (h : MH) : Option (Int64 × MH) :=
  match Nat.beq pc 9 with
  | true => (match lk lv 0, lk lv 1, lk lv 2, lk lv 4, st with
    | some (.inr (.inr (0, 7, 3))), some (.inl a1), some (.inr (.inl a2)), some (.inl a4), [] => ((L_Reader_readSum N rc n)) a1 a2 a4 h
    | _, _, _, _, _ => none)
  | false => none
set_option maxRecDepth 1000000 in
theorem E_Reader_readSum_0 (N : Nat) (rc : (Int32 → MH → Option (Int64 × MH))) (n : Nat) (a1 : Int32) (h : MH) : seg (C_Reader_readSum N rc) 8 0 rJ T_Reader_readSum [0, 9, 42] (fun q lv st h => match Nat.ble 1 q with
    | true => D_Reader_readSum N rc n q lv st h
    | false => B_Reader_readSum N rc n q lv st h) 400 true 0 [(0, .inr (.inr (0, 7, 3))), (1, .inl a1)] [] h = F_Reader_readSum_0 N rc (L_Reader_readSum N rc n) a1 h := (rfl)
set_option maxRecDepth 1000000 in
theorem E_Reader_readSum_9 (N : Nat) (rc : (Int32 → MH → Option (Int64 × MH))) (n : Nat) (a1 : Int32) (a2 : Int64) (a4 : Int32) (h : MH) : seg (C_Reader_readSum N rc) 8 0 rJ T_Reader_readSum [0, 9, 42] (fun q lv st h => match Nat.ble 10 q with
    | true => D_Reader_readSum N rc n q lv st h
    | false => B_Reader_readSum N rc n q lv st h) 400 true 9 [(0, .inr (.inr (0, 7, 3))), (1, .inl a1), (2, .inr (.inl a2)), (4, .inl a4)] [] h = F_Reader_readSum_9 N rc (L_Reader_readSum N rc n) a1 a2 a4 h := (rfl)
set_option maxRecDepth 1000000 in
theorem E_Reader_readSum_42 (N : Nat) (rc : (Int32 → MH → Option (Int64 × MH))) (n : Nat) (a1 : Int32) (a2 : Int64) (a4 : Int32) (h : MH) : seg (C_Reader_readSum N rc) 8 0 rJ T_Reader_readSum [0, 9, 42] (fun q lv st h => match Nat.ble 43 q with
    | true => D_Reader_readSum N rc n q lv st h
    | false => B_Reader_readSum N rc n q lv st h) 400 true 42 [(0, .inr (.inr (0, 7, 3))), (1, .inl a1), (2, .inr (.inl a2)), (4, .inl a4)] [] h = F_Reader_readSum_42 N rc (L_Reader_readSum N rc n) a1 a2 a4 h := (rfl)
def T_Reader_readMoves : List (List (Option RW)) := [
  [some (.aload_n 0, 1, [0], 0, 0), some (.invokevirtual 65, 3, [0, 57, 1, 3], 0, 0), none, none, some (.aload_n 0, 1, [0], 0, 0), some (.invokevirtual 183, 3, [0, 69, 1, 0], 0, 0), none, none, some (.istore_n 2, 1, [2], 0, 0), some (.iload_n 2, 1, [2], 0, 0), some (.ifCond .ge 5, 3, [15], 0, 0), none, none, some (.iconst 0, 1, [], 0, 0), some (.ireturn, 1, [], 0, 0), some (.aload_n 0, 1, [0], 0, 0), some (.invokevirtual 65, 3, [0, 57, 1, 3], 0, 0), none, none, some (.aload_n 0, 1, [0], 0, 0), some (.invokevirtual 129, 3, [0, 64, 1, 0], 0, 0), none, none, some (.ifCond .ne 13, 3, [36], 0, 0), none, none, some (.aload_n 0, 1, [0], 0, 0), some (.iconst 2, 1, [], 2, 0), some (.aload_n 0, 1, [0], 0, 0), some (.getfield 25, 3, [7, 4, 0], 0, 0), none, none],
  [some (.invokevirtual 85, 3, [0, 56, 3, 0], 0, 0), none, none, some (.ireturn, 1, [], 0, 0), some (.aload_n 0, 1, [0], 0, 0), some (.getfield 50, 3, [7, 10, 2, 0, 5, 8], 0, 0), none, none, some (.aload_n 0, 1, [0], 0, 0), some (.getfield 9, 3, [7, 0, 2, 3, 600, 1], 0, 0), none, none, some (.aload_n 0, 1, [0], 0, 0), some (.getfield 25, 3, [7, 4, 0], 0, 0), none, none, some (.aload_n 0, 1, [0], 0, 0), some (.getfield 28, 3, [7, 5, 0], 0, 0), none, none, some (.invokevirtual 132, 3, [1, 43, 4, 0], 0, 0), none, none, some (.istore_n 3, 1, [3], 0, 0), some (.iload_n 3, 1, [3], 0, 0), some (.ifCond .lt 15, 3, [72], 0, 0), none, none, some (.aload_n 0, 1, [0], 0, 0), some (.getfield 50, 3, [7, 10, 2, 0, 5, 8], 0, 0), none, none],
  [some (.getfield 136, 3, [5, 3, 2, 1, 14, 4], 0, 0), none, none, some (.iload_n 3, 1, [3], 0, 0), some (.iaload, 1, [], 0, 0), some (.ifCond .le 13, 3, [82], 0, 0), none, none, some (.aload_n 0, 1, [0], 0, 0), some (.iconst 3, 1, [], 3, 0), some (.aload_n 0, 1, [0], 0, 0), some (.getfield 25, 3, [7, 4, 0], 0, 0), none, none, some (.invokevirtual 85, 3, [0, 56, 3, 0], 0, 0), none, none, some (.ireturn, 1, [], 0, 0), some (.aload_n 0, 1, [0], 0, 0), some (.getfield 50, 3, [7, 10, 2, 0, 5, 8], 0, 0), none, none, some (.getfield 143, 3, [5, 2, 2, 1, 14, 3], 0, 0), none, none, some (.iload_n 3, 1, [3], 0, 0), some (.iaload, 1, [], 0, 0), some (.istore 4, 2, [4], 0, 0), none, some (.aload_n 0, 1, [0], 0, 0), some (.invokevirtual 65, 3, [0, 57, 1, 3], 0, 0), none],
  [none, some (.aload_n 0, 1, [0], 0, 0), some (.getfield 25, 3, [7, 4, 0], 0, 0), none, none, some (.istore 5, 2, [5], 0, 0), none, some (.aload_n 0, 1, [0], 0, 0), some (.iconst 0, 1, [], 0, 0), some (.invokevirtual 191, 3, [0, 76, 2, 1], 0, 0), none, none, some (.lstore 6, 2, [6], 0, 0), none, some (.aload_n 0, 1, [0], 0, 0), some (.getfield 34, 3, [7, 7, 0], 0, 0), none, none, some (.ifCond .ne 10, 3, [124], 0, 0), none, none, some (.aload_n 0, 1, [0], 0, 0), some (.invokevirtual 169, 3, [0, 67, 1, 0], 0, 0), none, none, some (.ifCond .ne 5, 3, [126], 0, 0), none, none, some (.iconst 0, 1, [], 0, 0), some (.ireturn, 1, [], 0, 0), some (.iload_n 2, 1, [2], 0, 0), some (.bipush 8, 2, [], 8, 0)],
  [none, some (.imul, 1, [], 0, 0), some (.iload 4, 2, [4], 0, 0), none, some (.iadd, 1, [], 0, 0), some (.istore 8, 2, [8], 0, 0), none, some (.aload_n 0, 1, [0], 0, 0), some (.getfield 54, 3, [7, 11, 1], 0, 0), none, none, some (.iload 8, 2, [8], 0, 0), none, some (.lshr, 1, [], 0, 0), some (.lconst 1, 1, [], 0, 1), some (.land, 1, [], 0, 0), some (.lconst 0, 1, [], 0, 0), some (.lcmp, 1, [], 0, 0), some (.ifCond .eq 11, 3, [157], 0, 0), none, none, some (.aload_n 0, 1, [0], 0, 0), some (.bipush 6, 2, [], 6, 0), none, some (.iload_n 1, 1, [1], 0, 0), some (.invokevirtual 85, 3, [0, 56, 3, 0], 0, 0), none, none, some (.ireturn, 1, [], 0, 0), some (.lload 6, 2, [6], 0, 0), none, some (.ldc2_w 195, 3, [], 0, (-9))],
  [none, none, some (.lcmp, 1, [], 0, 0), some (.ifCond .lt 12, 3, [175], 0, 0), none, none, some (.lload 6, 2, [6], 0, 0), none, some (.ldc2_w 197, 3, [], 0, 9), none, none, some (.lcmp, 1, [], 0, 0), some (.ifCond .le 11, 3, [183], 0, 0), none, none, some (.aload_n 0, 1, [0], 0, 0), some (.iconst 5, 1, [], 5, 0), some (.iload 5, 2, [5], 0, 0), none, some (.invokevirtual 85, 3, [0, 56, 3, 0], 0, 0), none, none, some (.ireturn, 1, [], 0, 0), some (.aload_n 0, 1, [0], 0, 0), some (.dup, 1, [], 0, 0), some (.getfield 54, 3, [7, 11, 1], 0, 0), none, none, some (.lconst 1, 1, [], 0, 1), some (.iload 8, 2, [8], 0, 0), none, some (.lshl, 1, [], 0, 0)],
  [some (.lor, 1, [], 0, 0), some (.putfield 54, 3, [7, 11, 1], 0, 0), none, none, some (.aload_n 0, 1, [0], 0, 0), some (.getfield 43, 3, [7, 9, 3, 0, 2], 0, 0), none, none, some (.getfield 199, 3, [2, 2, 2, 1, 48, 1], 0, 0), none, none, some (.iload 8, 2, [8], 0, 0), none, some (.lload 6, 2, [6], 0, 0), none, some (.l2i, 1, [], 0, 0), some (.iastore, 1, [], 0, 0), some (.iconst 1, 1, [], 1, 0), some (.ireturn, 1, [], 0, 0)]]
def f_Reader_readMoves (N : Nat) (a1 : Int32) (h : MH) : Option (Int32 × MH) :=
  (f_Reader_advance N h).bind (fun x1 =>
  (f_Reader_seeCell N x1).bind (fun x2 =>
  if 0 ≤ x2.1 then
  ((f_Reader_advance N x2.2).bind (fun x3 =>
  (f_Reader_isName N x3).bind (fun x4 =>
  if x4.1 = 0 then
  ((f_Reader_fail N 2 (gI x4.2 3 4) x4.2).bind (fun x5 =>
  match narOK 1 x5.1 with
  | true => some (x5.1, x5.2)
  | false => none))
  else
  ((f_Names_find N (gI x4.2 3 4) (gI x4.2 3 5) x4.2).bind (fun x6 =>
  if x6.1 < 0 then
  ((f_Reader_fail N 3 (gI x6.2 3 4) x6.2).bind (fun x7 =>
  match narOK 1 x7.1 with
  | true => some (x7.1, x7.2)
  | false => none))
  else
  (if inB x6.1 14 = true then
  (if (gI x6.2 15 (iN x6.1)) ≤ 0 then
  (if inB x6.1 14 = true then
  (let v8 : Int32 := gI x6.2 14 (iN x6.1)
  (f_Reader_advance N x6.2).bind (fun x9 =>
  let v10 : Int32 := gI x9 3 4
  (f_Reader_readSum N 8 0 x9).bind (fun x11 =>
  if (gI x11.2 3 7) = 0 then
  ((f_Reader_seesEnd N x11.2).bind (fun x12 =>
  if x12.1 = 0 then
  (some (0, x12.2))
  else
  (let v13 : Int32 := (x2.1 * 8) + v8
  if (lg_cmp (((gJ x12.2 3 11) >>> (Int32.toInt64 v13 &&& 63)) &&& 1) 0) = 0 then
  (if (lg_cmp x11.1 ((-9))) < 0 then
  ((f_Reader_fail N 5 v10 x12.2).bind (fun x14 =>
  match narOK 1 x14.1 with
  | true => some (x14.1, x14.2)
  | false => none))
  else
  (if (lg_cmp x11.1 9) ≤ 0 then
  (let h15 : MH := sJ x12.2 3 11 ((gJ x12.2 3 11) ||| (1 <<< (Int32.toInt64 v13 &&& 63)))
  if inB v13 48 = true then
  (let h16 : MH := sI h15 ((gR h15 3 9) + 1) (iN v13) (Int64.toInt32 x11.1)
  some (1, h16))
  else none)
  else
  ((f_Reader_fail N 5 v10 x12.2).bind (fun x17 =>
  match narOK 1 x17.1 with
  | true => some (x17.1, x17.2)
  | false => none))))
  else
  ((f_Reader_fail N 6 a1 x12.2).bind (fun x18 =>
  match narOK 1 x18.1 with
  | true => some (x18.1, x18.2)
  | false => none)))))
  else
  (some (0, x11.2)))))
  else none)
  else
  ((f_Reader_fail N 3 (gI x6.2 3 4) x6.2).bind (fun x19 =>
  match narOK 1 x19.1 with
  | true => some (x19.1, x19.2)
  | false => none)))
  else none))))))
  else
  (some (0, x2.2))))
def C_Reader_readMoves (N : Nat) : MC := (KDL, false, (fun _ => 0), jsB, (fun j => match Nat.beq j 43 with
    | true => w_Names_find (f_Names_find N)
    | false => match Nat.beq j 56 with
    | true => w_Reader_fail (f_Reader_fail N)
    | false => match Nat.beq j 64 with
    | true => w_Reader_isName (f_Reader_isName N)
    | false => match Nat.beq j 67 with
    | true => w_Reader_seesEnd (f_Reader_seesEnd N)
    | false => match Nat.beq j 69 with
    | true => w_Reader_seeCell (f_Reader_seeCell N)
    | false => fun _ _ => none), (fun j => match Nat.beq j 76 with
    | true => w_Reader_readSum (f_Reader_readSum N 8)
    | false => fun _ _ => none), (fun _ _ _ => none), (fun j => match Nat.beq j 57 with
    | true => w_Reader_advance (f_Reader_advance N)
    | false => fun _ _ => none))
def D_Reader_readMoves (N : Nat) (n pc : Nat) (lv : ML) (st : List MV) (h : MH) : Option (Int32 × MH) :=
  match Nat.beq pc 0 with
  | true => (match lk lv 0, lk lv 1, st with
    | some (.inr (.inr (0, 7, 3))), some (.inl a1), [] => f_Reader_readMoves N a1 h
    | _, _, _ => none)
  | false => none
set_option maxRecDepth 1000000 in
theorem E_Reader_readMoves_0 (N : Nat) (n : Nat) (a1 : Int32) (h : MH) : seg (C_Reader_readMoves N) 9 1 rI T_Reader_readMoves [0] (fun q lv st h => match Nat.ble 1 q with
    | true => D_Reader_readMoves N n q lv st h
    | false => none) 400 true 0 [(0, .inr (.inr (0, 7, 3))), (1, .inl a1)] [] h = f_Reader_readMoves N a1 h := (rfl)
def T_Reader_readStuck : List (List (Option RW)) := [
  [some (.aload_n 0, 1, [0], 0, 0), some (.invokevirtual 65, 3, [0, 57, 1, 3], 0, 0), none, none, some (.aload_n 0, 1, [0], 0, 0), some (.invokevirtual 183, 3, [0, 69, 1, 0], 0, 0), none, none, some (.istore_n 2, 1, [2], 0, 0), some (.iload_n 2, 1, [2], 0, 0), some (.ifCond .ge 5, 3, [15], 0, 0), none, none, some (.iconst 0, 1, [], 0, 0), some (.ireturn, 1, [], 0, 0), some (.aload_n 0, 1, [0], 0, 0), some (.invokevirtual 65, 3, [0, 57, 1, 3], 0, 0), none, none, some (.aload_n 0, 1, [0], 0, 0), some (.ldc 117, 2, [7], 0, 0), none, some (.invokevirtual 164, 3, [0, 65, 2, 0], 0, 0), none, none, some (.ifCond .eq 13, 3, [38], 0, 0), none, none, some (.aload_n 0, 1, [0], 0, 0), some (.iconst 0, 1, [], 0, 0), some (.bipush 100, 2, [], 100, 0), none],
  [some (.invokevirtual 140, 3, [0, 66, 3, 0], 0, 0), none, none, some (.ifCond .ne 5, 3, [40], 0, 0), none, none, some (.iconst 0, 1, [], 0, 0), some (.ireturn, 1, [], 0, 0), some (.aload_n 0, 1, [0], 0, 0), some (.getfield 31, 3, [7, 6, 0], 0, 0), none, none, some (.istore_n 3, 1, [3], 0, 0), some (.aload_n 0, 1, [0], 0, 0), some (.invokevirtual 65, 3, [0, 57, 1, 3], 0, 0), none, none, some (.aload_n 0, 1, [0], 0, 0), some (.ldc 119, 2, [8], 0, 0), none, some (.invokevirtual 164, 3, [0, 65, 2, 0], 0, 0), none, none, some (.ifCond .eq 13, 3, [68], 0, 0), none, none, some (.aload_n 0, 1, [0], 0, 0), some (.iload_n 3, 1, [3], 0, 0), some (.bipush 100, 2, [], 100, 0), none, some (.invokevirtual 140, 3, [0, 66, 3, 0], 0, 0), none],
  [none, some (.ifCond .ne 5, 3, [70], 0, 0), none, none, some (.iconst 0, 1, [], 0, 0), some (.ireturn, 1, [], 0, 0), some (.aload_n 0, 1, [0], 0, 0), some (.getfield 31, 3, [7, 6, 0], 0, 0), none, none, some (.istore 4, 2, [4], 0, 0), none, some (.aload_n 0, 1, [0], 0, 0), some (.invokevirtual 65, 3, [0, 57, 1, 3], 0, 0), none, none, some (.aload_n 0, 1, [0], 0, 0), some (.invokevirtual 169, 3, [0, 67, 1, 0], 0, 0), none, none, some (.ifCond .ne 5, 3, [89], 0, 0), none, none, some (.iconst 0, 1, [], 0, 0), some (.ireturn, 1, [], 0, 0), some (.aload_n 0, 1, [0], 0, 0), some (.getfield 58, 3, [7, 12, 0], 0, 0), none, none, some (.iload_n 2, 1, [2], 0, 0), some (.ishr, 1, [], 0, 0), some (.iconst 1, 1, [], 1, 0)],
  [some (.iand, 1, [], 0, 0), some (.ifCond .eq 11, 3, [108], 0, 0), none, none, some (.aload_n 0, 1, [0], 0, 0), some (.bipush 6, 2, [], 6, 0), none, some (.iload_n 1, 1, [1], 0, 0), some (.invokevirtual 85, 3, [0, 56, 3, 0], 0, 0), none, none, some (.ireturn, 1, [], 0, 0), some (.aload_n 0, 1, [0], 0, 0), some (.dup, 1, [], 0, 0), some (.getfield 58, 3, [7, 12, 0], 0, 0), none, none, some (.iconst 1, 1, [], 1, 0), some (.iload_n 2, 1, [2], 0, 0), some (.ishl, 1, [], 0, 0), some (.ior, 1, [], 0, 0), some (.putfield 58, 3, [7, 12, 0], 0, 0), none, none, some (.aload_n 0, 1, [0], 0, 0), some (.getfield 43, 3, [7, 9, 3, 0, 2], 0, 0), none, none, some (.getfield 202, 3, [2, 5, 2, 1, 6, 4], 0, 0), none, none, some (.iload_n 2, 1, [2], 0, 0)],
  [some (.iload_n 3, 1, [3], 0, 0), some (.iastore, 1, [], 0, 0), some (.aload_n 0, 1, [0], 0, 0), some (.getfield 43, 3, [7, 9, 3, 0, 2], 0, 0), none, none, some (.getfield 205, 3, [2, 6, 2, 1, 6, 5], 0, 0), none, none, some (.iload_n 2, 1, [2], 0, 0), some (.iload 4, 2, [4], 0, 0), none, some (.iastore, 1, [], 0, 0), some (.iconst 1, 1, [], 1, 0), some (.ireturn, 1, [], 0, 0)]]
def f_Reader_readStuck (N : Nat) (a1 : Int32) (h : MH) : Option (Int32 × MH) :=
  (f_Reader_advance N h).bind (fun x1 =>
  (f_Reader_seeCell N x1).bind (fun x2 =>
  if 0 ≤ x2.1 then
  ((f_Reader_advance N x2.2).bind (fun x3 =>
  (f_Reader_passWord N 7 x3).bind (fun x4 =>
  if x4.1 = 0 then
  (some (0, x4.2))
  else
  ((f_Reader_seesNumber N 0 100 x4.2).bind (fun x5 =>
  if x5.1 = 0 then
  (some (0, x5.2))
  else
  (let v6 : Int32 := gI x5.2 3 6
  (f_Reader_advance N x5.2).bind (fun x7 =>
  (f_Reader_passWord N 8 x7).bind (fun x8 =>
  if x8.1 = 0 then
  (some (0, x8.2))
  else
  ((f_Reader_seesNumber N v6 100 x8.2).bind (fun x9 =>
  if x9.1 = 0 then
  (some (0, x9.2))
  else
  (let v10 : Int32 := gI x9.2 3 6
  (f_Reader_advance N x9.2).bind (fun x11 =>
  (f_Reader_seesEnd N x11).bind (fun x12 =>
  if x12.1 = 0 then
  (some (0, x12.2))
  else
  (if ((((gI x12.2 3 12)) >>> (x2.1 &&& 31)) &&& 1) = 0 then
  (let h13 : MH := sI x12.2 3 12 ((gI x12.2 3 12) ||| ((1 : Int32) <<< (x2.1 &&& 31)))
  if inB x2.1 6 = true then
  (let h14 : MH := sI h13 ((gR h13 3 9) + 4) (iN x2.1) v6
  if inB x2.1 6 = true then
  (let h15 : MH := sI h14 ((gR h14 3 9) + 5) (iN x2.1) v10
  some (1, h15))
  else none)
  else none)
  else
  ((f_Reader_fail N 6 a1 x12.2).bind (fun x16 =>
  match narOK 1 x16.1 with
  | true => some (x16.1, x16.2)
  | false => none))))))))))))))))
  else
  (some (0, x2.2))))
def C_Reader_readStuck (N : Nat) : MC := (KDL, false, (fun _ => 0), jsB, (fun j => match Nat.beq j 56 with
    | true => w_Reader_fail (f_Reader_fail N)
    | false => match Nat.beq j 65 with
    | true => w_Reader_passWord (f_Reader_passWord N)
    | false => match Nat.beq j 66 with
    | true => w_Reader_seesNumber (f_Reader_seesNumber N)
    | false => match Nat.beq j 67 with
    | true => w_Reader_seesEnd (f_Reader_seesEnd N)
    | false => match Nat.beq j 69 with
    | true => w_Reader_seeCell (f_Reader_seeCell N)
    | false => fun _ _ => none), (fun _ _ _ => none), (fun _ _ _ => none), (fun j => match Nat.beq j 57 with
    | true => w_Reader_advance (f_Reader_advance N)
    | false => fun _ _ => none))
def D_Reader_readStuck (N : Nat) (n pc : Nat) (lv : ML) (st : List MV) (h : MH) : Option (Int32 × MH) :=
  match Nat.beq pc 0 with
  | true => (match lk lv 0, lk lv 1, st with
    | some (.inr (.inr (0, 7, 3))), some (.inl a1), [] => f_Reader_readStuck N a1 h
    | _, _, _ => none)
  | false => none
set_option maxRecDepth 1000000 in
theorem E_Reader_readStuck_0 (N : Nat) (n : Nat) (a1 : Int32) (h : MH) : seg (C_Reader_readStuck N) 5 1 rI T_Reader_readStuck [0] (fun q lv st h => match Nat.ble 1 q with
    | true => D_Reader_readStuck N n q lv st h
    | false => none) 400 true 0 [(0, .inr (.inr (0, 7, 3))), (1, .inl a1)] [] h = f_Reader_readStuck N a1 h := (rfl)
def T_Reader_readPart : List (List (Option RW)) := [
  [some (.aload_n 0, 1, [0], 0, 0), some (.getfield 25, 3, [7, 4, 0], 0, 0), none, none, some (.istore_n 1, 1, [1], 0, 0), some (.aload_n 0, 1, [0], 0, 0), some (.ldc 99, 2, [0], 0, 0), none, some (.invokevirtual 101, 3, [0, 63, 2, 0], 0, 0), none, none, some (.ifCond .eq 8, 3, [19], 0, 0), none, none, some (.aload_n 0, 1, [0], 0, 0), some (.invokevirtual 146, 3, [0, 71, 1, 0], 0, 0), none, none, some (.ireturn, 1, [], 0, 0), some (.aload_n 0, 1, [0], 0, 0), some (.ldc 109, 2, [3], 0, 0), none, some (.invokevirtual 101, 3, [0, 63, 2, 0], 0, 0), none, none, some (.ifCond .eq 8, 3, [33], 0, 0), none, none, some (.aload_n 0, 1, [0], 0, 0), some (.invokevirtual 149, 3, [0, 72, 1, 0], 0, 0), none, none],
  [some (.ireturn, 1, [], 0, 0), some (.aload_n 0, 1, [0], 0, 0), some (.ldc 111, 2, [4], 0, 0), none, some (.invokevirtual 101, 3, [0, 63, 2, 0], 0, 0), none, none, some (.ifCond .eq 9, 3, [48], 0, 0), none, none, some (.aload_n 0, 1, [0], 0, 0), some (.iload_n 1, 1, [1], 0, 0), some (.invokevirtual 152, 3, [0, 73, 2, 0], 0, 0), none, none, some (.ireturn, 1, [], 0, 0), some (.aload_n 0, 1, [0], 0, 0), some (.ldc 113, 2, [5], 0, 0), none, some (.invokevirtual 101, 3, [0, 63, 2, 0], 0, 0), none, none, some (.ifCond .eq 9, 3, [63], 0, 0), none, none, some (.aload_n 0, 1, [0], 0, 0), some (.iload_n 1, 1, [1], 0, 0), some (.invokevirtual 155, 3, [0, 74, 2, 0], 0, 0), none, none, some (.ireturn, 1, [], 0, 0), some (.aload_n 0, 1, [0], 0, 0)],
  [some (.ldc 115, 2, [6], 0, 0), none, some (.invokevirtual 101, 3, [0, 63, 2, 0], 0, 0), none, none, some (.ifCond .eq 9, 3, [78], 0, 0), none, none, some (.aload_n 0, 1, [0], 0, 0), some (.iload_n 1, 1, [1], 0, 0), some (.invokevirtual 158, 3, [0, 75, 2, 0], 0, 0), none, none, some (.ireturn, 1, [], 0, 0), some (.aload_n 0, 1, [0], 0, 0), some (.iconst 2, 1, [], 2, 0), some (.aload_n 0, 1, [0], 0, 0), some (.getfield 25, 3, [7, 4, 0], 0, 0), none, none, some (.invokevirtual 85, 3, [0, 56, 3, 0], 0, 0), none, none, some (.ireturn, 1, [], 0, 0)]]
def f_Reader_readPart (N : Nat) (h : MH) : Option (Int32 × MH) :=
  let v1 : Int32 := gI h 3 4
  (f_Reader_isWord N 0 h).bind (fun x2 =>
  if x2.1 = 0 then
  ((f_Reader_isWord N 3 x2.2).bind (fun x3 =>
  if x3.1 = 0 then
  ((f_Reader_isWord N 4 x3.2).bind (fun x4 =>
  if x4.1 = 0 then
  ((f_Reader_isWord N 5 x4.2).bind (fun x5 =>
  if x5.1 = 0 then
  ((f_Reader_isWord N 6 x5.2).bind (fun x6 =>
  if x6.1 = 0 then
  ((f_Reader_fail N 2 (gI x6.2 3 4) x6.2).bind (fun x7 =>
  match narOK 1 x7.1 with
  | true => some (x7.1, x7.2)
  | false => none))
  else
  ((f_Reader_readStuck N v1 x6.2).bind (fun x8 =>
  match narOK 1 x8.1 with
  | true => some (x8.1, x8.2)
  | false => none))))
  else
  ((f_Reader_readMoves N v1 x5.2).bind (fun x9 =>
  match narOK 1 x9.1 with
  | true => some (x9.1, x9.2)
  | false => none))))
  else
  ((f_Reader_readNear N v1 x4.2).bind (fun x10 =>
  match narOK 1 x10.1 with
  | true => some (x10.1, x10.2)
  | false => none))))
  else
  ((f_Reader_readMark N x3.2).bind (fun x11 =>
  match narOK 1 x11.1 with
  | true => some (x11.1, x11.2)
  | false => none))))
  else
  ((f_Reader_readSheet N x2.2).bind (fun x12 =>
  match narOK 1 x12.1 with
  | true => some (x12.1, x12.2)
  | false => none)))
def C_Reader_readPart (N : Nat) : MC := (KDL, false, (fun _ => 0), jsB, (fun j => match Nat.beq j 56 with
    | true => w_Reader_fail (f_Reader_fail N)
    | false => match Nat.beq j 63 with
    | true => w_Reader_isWord (f_Reader_isWord N)
    | false => match Nat.beq j 71 with
    | true => w_Reader_readSheet (f_Reader_readSheet N)
    | false => match Nat.beq j 72 with
    | true => w_Reader_readMark (f_Reader_readMark N)
    | false => match Nat.beq j 73 with
    | true => w_Reader_readNear (f_Reader_readNear N)
    | false => match Nat.beq j 74 with
    | true => w_Reader_readMoves (f_Reader_readMoves N)
    | false => match Nat.beq j 75 with
    | true => w_Reader_readStuck (f_Reader_readStuck N)
    | false => fun _ _ => none), (fun _ _ _ => none), (fun _ _ _ => none), (fun _ _ _ => none))
def D_Reader_readPart (N : Nat) (n pc : Nat) (lv : ML) (st : List MV) (h : MH) : Option (Int32 × MH) :=
  match Nat.beq pc 0 with
  | true => (match lk lv 0, st with
    | some (.inr (.inr (0, 7, 3))), [] => f_Reader_readPart N h
    | _, _ => none)
  | false => none
set_option maxRecDepth 1000000 in
theorem E_Reader_readPart_0 (N : Nat) (n : Nat) (h : MH) : seg (C_Reader_readPart N) 2 1 rI T_Reader_readPart [0] (fun q lv st h => match Nat.ble 1 q with
    | true => D_Reader_readPart N n q lv st h
    | false => none) 400 true 0 [(0, .inr (.inr (0, 7, 3)))] [] h = f_Reader_readPart N h := (rfl)
def T_Reader_readParts : List (List (Option RW)) := [
  [some (.aload_n 0, 1, [0], 0, 0), some (.iload_n 1, 1, [1], 0, 0), some (.putfield 19, 3, [7, 2, 0], 0, 0), none, none, some (.aload_n 0, 1, [0], 0, 0), some (.iconst 0, 1, [], 0, 0), some (.putfield 15, 3, [7, 1, 0], 0, 0), none, none, some (.aload_n 0, 1, [0], 0, 0), some (.iconst 0, 1, [], 0, 0), some (.putfield 28, 3, [7, 5, 0], 0, 0), none, none, some (.aload_n 0, 1, [0], 0, 0), some (.iconst 0, 1, [], 0, 0), some (.putfield 34, 3, [7, 7, 0], 0, 0), none, none, some (.aload_n 0, 1, [0], 0, 0), some (.iconst (-1), 1, [], (-1), 0), some (.putfield 37, 3, [7, 8, 0], 0, 0), none, none, some (.aload_n 0, 1, [0], 0, 0), some (.getfield 43, 3, [7, 9, 3, 0, 2], 0, 0), none, none, some (.invokevirtual 61, 3, [1, 13, 1, 3], 0, 0), none, none],
  [some (.aload_n 0, 1, [0], 0, 0), some (.getfield 50, 3, [7, 10, 2, 0, 5, 8], 0, 0), none, none, some (.invokevirtual 64, 3, [1, 41, 1, 3], 0, 0), none, none, some (.aload_n 0, 1, [0], 0, 0), some (.lconst 0, 1, [], 0, 0), some (.putfield 54, 3, [7, 11, 1], 0, 0), none, none, some (.aload_n 0, 1, [0], 0, 0), some (.iconst 0, 1, [], 0, 0), some (.putfield 58, 3, [7, 12, 0], 0, 0), none, none, some (.aload_n 0, 1, [0], 0, 0), some (.invokevirtual 65, 3, [0, 57, 1, 3], 0, 0), none, none, some (.iconst 0, 1, [], 0, 0), some (.istore_n 2, 1, [2], 0, 0), some (.iload_n 2, 1, [2], 0, 0), some (.sipush 600, 3, [], 600, 0), none, none, some (.if_icmp .ge 27, 3, [86], 0, 0), none, none, some (.aload_n 0, 1, [0], 0, 0), some (.getfield 22, 3, [7, 3, 0], 0, 0)],
  [none, none, some (.ifCond .eq 20, 3, [86], 0, 0), none, none, some (.aload_n 0, 1, [0], 0, 0), some (.invokevirtual 68, 3, [0, 70, 1, 0], 0, 0), none, none, some (.ifCond .eq 13, 3, [86], 0, 0), none, none, some (.iinc 2 1, 3, [2], 1, 0), none, none, some (.aload_n 0, 1, [0], 0, 0), some (.invokevirtual 65, 3, [0, 57, 1, 3], 0, 0), none, none, some (.goto (-28), 3, [55], 0, 0), none, none, some (.iload_n 2, 1, [2], 0, 0), some (.ireturn, 1, [], 0, 0)]]
def F_Reader_readParts_55 (N : Nat) (bk : (Int32 → MH → Option (Int32 × MH))) (a2 : Int32) (h : MH) : Option (Int32 × MH) :=
  if 600 ≤ a2 then
  (some (a2, h))
  else
  (if (gI h 3 3) = 0 then
  (some (a2, h))
  else
  ((f_Reader_readPart N h).bind (fun x11 =>
  if x11.1 = 0 then
  (some (a2, x11.2))
  else
  (let v12 : Int32 := a2 + 1
  (f_Reader_advance N x11.2).bind (fun x13 =>
  bk v12 x13)))))
def F_Reader_readParts_0 (N : Nat) (bk : (Int32 → MH → Option (Int32 × MH))) (a1 : Int32) (h : MH) : Option (Int32 × MH) :=
  let h1 : MH := sI h 3 2 a1
  let h2 : MH := sI h1 3 1 0
  let h3 : MH := sI h2 3 5 0
  let h4 : MH := sI h3 3 7 0
  let h5 : MH := sI h4 3 8 ((-1))
  (f_Land_clear N (gR h5 3 9) h5).bind (fun x6 =>
  (f_Names_clear N x6).bind (fun x7 =>
  let h8 : MH := sJ x7 3 11 0
  let h9 : MH := sI h8 3 12 0
  (f_Reader_advance N h9).bind (fun x10 =>
  F_Reader_readParts_55 N bk 0 x10)))
def L_Reader_readParts (N : Nat) : Nat → (Int32 → MH → Option (Int32 × MH))
  | 0 => fun _ _ => none
  | n + 1 => F_Reader_readParts_55 N (L_Reader_readParts N n)
def f_Reader_readParts (N : Nat) (a1 : Int32) (h : MH) : Option (Int32 × MH) := F_Reader_readParts_0 N (L_Reader_readParts N N) a1 h
def C_Reader_readParts (N : Nat) : MC := (KDL, false, (fun _ => 0), jsB, (fun j => match Nat.beq j 70 with
    | true => w_Reader_readPart (f_Reader_readPart N)
    | false => fun _ _ => none), (fun _ _ _ => none), (fun _ _ _ => none), (fun j => match Nat.beq j 13 with
    | true => w_Land_clear (f_Land_clear N)
    | false => match Nat.beq j 41 with
    | true => w_Names_clear (f_Names_clear N)
    | false => match Nat.beq j 57 with
    | true => w_Reader_advance (f_Reader_advance N)
    | false => fun _ _ => none))
def D_Reader_readParts (N : Nat) (n pc : Nat) (lv : ML) (st : List MV) (h : MH) : Option (Int32 × MH) :=
  match Nat.beq pc 0 with
  | true => (match lk lv 0, lk lv 1, st with
    | some (.inr (.inr (0, 7, 3))), some (.inl a1), [] => F_Reader_readParts_0 N (L_Reader_readParts N n) a1 h
    | _, _, _ => none)
  | false => match Nat.beq pc 55 with
  | true => (match lk lv 0, lk lv 2, st with
    | some (.inr (.inr (0, 7, 3))), some (.inl a2), [] => F_Reader_readParts_55 N (L_Reader_readParts N n) a2 h
    | _, _, _ => none)
  | false => none
def B_Reader_readParts (N : Nat) (n pc : Nat) (lv : ML) (st : List MV) (h : MH) : Option (Int32 × MH) :=
  match Nat.beq pc 55 with
  | true => (match lk lv 0, lk lv 2, st with
    | some (.inr (.inr (0, 7, 3))), some (.inl a2), [] => ((L_Reader_readParts N n)) a2 h
    | _, _, _ => none)
  | false => none
set_option maxRecDepth 1000000 in
theorem E_Reader_readParts_0 (N : Nat) (n : Nat) (a1 : Int32) (h : MH) : seg (C_Reader_readParts N) 3 0 rI T_Reader_readParts [0, 55] (fun q lv st h => match Nat.ble 1 q with
    | true => D_Reader_readParts N n q lv st h
    | false => B_Reader_readParts N n q lv st h) 400 true 0 [(0, .inr (.inr (0, 7, 3))), (1, .inl a1)] [] h = F_Reader_readParts_0 N (L_Reader_readParts N n) a1 h := (rfl)
set_option maxRecDepth 1000000 in
theorem E_Reader_readParts_55 (N : Nat) (n : Nat) (a2 : Int32) (h : MH) : seg (C_Reader_readParts N) 3 0 rI T_Reader_readParts [0, 55] (fun q lv st h => match Nat.ble 56 q with
    | true => D_Reader_readParts N n q lv st h
    | false => B_Reader_readParts N n q lv st h) 400 true 55 [(0, .inr (.inr (0, 7, 3))), (2, .inl a2)] [] h = F_Reader_readParts_55 N (L_Reader_readParts N n) a2 h := (rfl)
def T_Shakes_clear : List (List (Option RW)) := [
  [some (.aload_n 0, 1, [0], 0, 0), some (.iconst 0, 1, [], 0, 0), some (.putfield 21, 3, [8, 3, 0], 0, 0), none, none, some (.return_, 1, [], 0, 0)]]
def f_Shakes_clear (N : Nat) (h : MH) : Option (MH) :=
  let h1 : MH := sI h 29 3 0
  some h1
def C_Shakes_clear (N : Nat) : MC := (KDL, false, (fun _ => 0), jsB, (fun _ _ _ => none), (fun _ _ _ => none), (fun _ _ _ => none), (fun _ _ _ => none))
def D_Shakes_clear (N : Nat) (n pc : Nat) (lv : ML) (st : List MV) (h : MH) : Option (MH) :=
  match Nat.beq pc 0 with
  | true => (match lk lv 0, st with
    | some (.inr (.inr (0, 8, 29))), [] => f_Shakes_clear N h
    | _, _ => none)
  | false => none
set_option maxRecDepth 1000000 in
theorem E_Shakes_clear_0 (N : Nat) (n : Nat) (h : MH) : seg (C_Shakes_clear N) 1 0 rV T_Shakes_clear [0] (fun q lv st h => match Nat.ble 1 q with
    | true => D_Shakes_clear N n q lv st h
    | false => none) 400 true 0 [(0, .inr (.inr (0, 8, 29)))] [] h = f_Shakes_clear N h := (rfl)
def T_Shakes_add : List (List (Option RW)) := [
  [some (.aload_n 0, 1, [0], 0, 0), some (.getfield 21, 3, [8, 3, 0], 0, 0), none, none, some (.bipush 30, 2, [], 30, 0), none, some (.if_icmp .ge 43, 3, [49], 0, 0), none, none, some (.aload_n 0, 1, [0], 0, 0), some (.getfield 9, 3, [8, 0, 2, 1, 30, 1], 0, 0), none, none, some (.aload_n 0, 1, [0], 0, 0), some (.getfield 21, 3, [8, 3, 0], 0, 0), none, none, some (.iload_n 1, 1, [1], 0, 0), some (.iastore, 1, [], 0, 0), some (.aload_n 0, 1, [0], 0, 0), some (.getfield 15, 3, [8, 1, 2, 1, 30, 2], 0, 0), none, none, some (.aload_n 0, 1, [0], 0, 0), some (.getfield 21, 3, [8, 3, 0], 0, 0), none, none, some (.iload_n 2, 1, [2], 0, 0), some (.iastore, 1, [], 0, 0), some (.aload_n 0, 1, [0], 0, 0), some (.getfield 18, 3, [8, 2, 2, 1, 30, 3], 0, 0), none],
  [none, some (.aload_n 0, 1, [0], 0, 0), some (.getfield 21, 3, [8, 3, 0], 0, 0), none, none, some (.iload_n 3, 1, [3], 0, 0), some (.iastore, 1, [], 0, 0), some (.aload_n 0, 1, [0], 0, 0), some (.dup, 1, [], 0, 0), some (.getfield 21, 3, [8, 3, 0], 0, 0), none, none, some (.iconst 1, 1, [], 1, 0), some (.iadd, 1, [], 0, 0), some (.putfield 21, 3, [8, 3, 0], 0, 0), none, none, some (.return_, 1, [], 0, 0)]]
def f_Shakes_add (N : Nat) (a1 : Int32) (a2 : Int32) (a3 : Int32) (h : MH) : Option (MH) :=
  if 30 ≤ (gI h 29 3) then
  (some h)
  else
  (if inB (gI h 29 3) 30 = true then
  (let h1 : MH := sI h 30 (iN (gI h 29 3)) a1
  if inB (gI h1 29 3) 30 = true then
  (let h2 : MH := sI h1 31 (iN (gI h1 29 3)) a2
  if inB (gI h2 29 3) 30 = true then
  (let h3 : MH := sI h2 32 (iN (gI h2 29 3)) a3
  let h4 : MH := sI h3 29 3 ((gI h3 29 3) + 1)
  some h4)
  else none)
  else none)
  else none)
def C_Shakes_add (N : Nat) : MC := (KDL, false, (fun _ => 0), jsB, (fun _ _ _ => none), (fun _ _ _ => none), (fun _ _ _ => none), (fun _ _ _ => none))
def D_Shakes_add (N : Nat) (n pc : Nat) (lv : ML) (st : List MV) (h : MH) : Option (MH) :=
  match Nat.beq pc 0 with
  | true => (match lk lv 0, lk lv 1, lk lv 2, lk lv 3, st with
    | some (.inr (.inr (0, 8, 29))), some (.inl a1), some (.inl a2), some (.inl a3), [] => f_Shakes_add N a1 a2 a3 h
    | _, _, _, _, _ => none)
  | false => none
set_option maxRecDepth 1000000 in
theorem E_Shakes_add_0 (N : Nat) (n : Nat) (a1 : Int32) (a2 : Int32) (a3 : Int32) (h : MH) : seg (C_Shakes_add N) 4 0 rV T_Shakes_add [0] (fun q lv st h => match Nat.ble 1 q with
    | true => D_Shakes_add N n q lv st h
    | false => none) 400 true 0 [(0, .inr (.inr (0, 8, 29))), (1, .inl a1), (2, .inl a2), (3, .inl a3)] [] h = f_Shakes_add N a1 a2 a3 h := (rfl)
def T_Math_min_JJ : List (List (Option RW)) := [
  [some (.lload_n 0, 1, [0], 0, 0), some (.lload_n 2, 1, [2], 0, 0), some (.lcmp, 1, [], 0, 0), some (.ifCond .gt 7, 3, [10], 0, 0), none, none, some (.lload_n 0, 1, [0], 0, 0), some (.goto 4, 3, [11], 0, 0), none, none, some (.lload_n 2, 1, [2], 0, 0), some (.lreturn, 1, [], 0, 0)]]
def f_Math_min_JJ (N : Nat) (a0 : Int64) (a2 : Int64) (h : MH) : Option (Int64 × MH) :=
  if 0 < (lg_cmp a0 a2) then
  (some (a2, h))
  else
  (some (a0, h))
def C_Math_min_JJ (N : Nat) : MC := (KDL, false, (fun _ => 0), jsB, (fun _ _ _ => none), (fun _ _ _ => none), (fun _ _ _ => none), (fun _ _ _ => none))
def D_Math_min_JJ (N : Nat) (n pc : Nat) (lv : ML) (st : List MV) (h : MH) : Option (Int64 × MH) :=
  match Nat.beq pc 0 with
  | true => (match lk lv 0, lk lv 2, st with
    | some (.inr (.inl a0)), some (.inr (.inl a2)), [] => f_Math_min_JJ N a0 a2 h
    | _, _, _ => none)
  | false => none
set_option maxRecDepth 1000000 in
theorem E_Math_min_JJ_0 (N : Nat) (n : Nat) (a0 : Int64) (a2 : Int64) (h : MH) : seg (C_Math_min_JJ N) 4 0 rJ T_Math_min_JJ [0] (fun q lv st h => match Nat.ble 1 q with
    | true => D_Math_min_JJ N n q lv st h
    | false => none) 400 true 0 [(0, .inr (.inl a0)), (2, .inr (.inl a2))] [] h = f_Math_min_JJ N a0 a2 h := (rfl)
def T_Shakes_left : List (List (Option RW)) := [
  [some (.lconst 0, 1, [], 0, 0), some (.lstore 5, 2, [5], 0, 0), none, some (.iconst 0, 1, [], 0, 0), some (.istore 7, 2, [7], 0, 0), none, some (.iload 7, 2, [7], 0, 0), none, some (.iload_n 2, 1, [2], 0, 0), some (.if_icmp .gt 78, 3, [87], 0, 0), none, none, some (.lload 5, 2, [5], 0, 0), none, some (.lload_n 3, 1, [3], 0, 0), some (.ladd, 1, [], 0, 0), some (.lstore 5, 2, [5], 0, 0), none, some (.iconst 0, 1, [], 0, 0), some (.istore 8, 2, [8], 0, 0), none, some (.iload 8, 2, [8], 0, 0), none, some (.aload_n 0, 1, [0], 0, 0), some (.getfield 21, 3, [8, 3, 0], 0, 0), none, none, some (.if_icmp .ge 54, 3, [81], 0, 0), none, none, some (.aload_n 0, 1, [0], 0, 0), some (.getfield 9, 3, [8, 0, 2, 1, 30, 1], 0, 0)],
  [none, none, some (.iload 8, 2, [8], 0, 0), none, some (.iaload, 1, [], 0, 0), some (.iload 7, 2, [7], 0, 0), none, some (.if_icmp .ne 36, 3, [75], 0, 0), none, none, some (.aload_n 0, 1, [0], 0, 0), some (.getfield 15, 3, [8, 1, 2, 1, 30, 2], 0, 0), none, none, some (.iload 8, 2, [8], 0, 0), none, some (.iaload, 1, [], 0, 0), some (.iload_n 1, 1, [1], 0, 0), some (.if_icmp .ne 25, 3, [75], 0, 0), none, none, some (.lload 5, 2, [5], 0, 0), none, some (.lload 5, 2, [5], 0, 0), none, some (.aload_n 0, 1, [0], 0, 0), some (.getfield 18, 3, [8, 2, 2, 1, 30, 3], 0, 0), none, none, some (.iload 8, 2, [8], 0, 0), none, some (.iaload, 1, [], 0, 0)],
  [some (.i2l, 1, [], 0, 0), some (.ldc2_w 25, 3, [], 0, 10000), none, none, some (.lmul, 1, [], 0, 0), some (.invokestatic 27, 3, [2, 262, 2, 1], 0, 0), none, none, some (.lsub, 1, [], 0, 0), some (.lstore 5, 2, [5], 0, 0), none, some (.iinc 8 1, 3, [8], 1, 0), none, none, some (.goto (-57), 3, [21], 0, 0), none, none, some (.iinc 7 1, 3, [7], 1, 0), none, none, some (.goto (-78), 3, [6], 0, 0), none, none, some (.lload 5, 2, [5], 0, 0), none, some (.lreturn, 1, [], 0, 0)]]
def F_Shakes_left_21 (N : Nat) (bk : (Int32 → Int32 → Int64 → Int64 → Int32 → MH → Option (Int64 × MH)) × (Int32 → Int32 → Int64 → Int64 → Int32 → Int32 → MH → Option (Int64 × MH))) (a1 : Int32) (a2 : Int32) (a3 : Int64) (a5 : Int64) (a7 : Int32) (a8 : Int32) (h : MH) : Option (Int64 × MH) :=
  if (gI h 29 3) ≤ a8 then
  (let v2 : Int32 := a7 + 1
  (bk.1) a1 a2 a3 a5 v2 h)
  else
  (if inB a8 30 = true then
  (if (gI h 30 (iN a8)) = a7 then
  (if inB a8 30 = true then
  (if (gI h 31 (iN a8)) = a1 then
  (if inB a8 30 = true then
  ((f_Math_min_JJ N a5 ((((gI h 32 (iN a8))).toInt64) * 10000) h).bind (fun x3 =>
  let v4 : Int64 := a5 - x3.1
  let v5 : Int32 := a8 + 1
  (bk.2) a1 a2 a3 v4 a7 v5 x3.2))
  else none)
  else
  (let v6 : Int32 := a8 + 1
  (bk.2) a1 a2 a3 a5 a7 v6 h))
  else none)
  else
  (let v7 : Int32 := a8 + 1
  (bk.2) a1 a2 a3 a5 a7 v7 h))
  else none)
def F_Shakes_left_6 (N : Nat) (bk : (Int32 → Int32 → Int64 → Int64 → Int32 → MH → Option (Int64 × MH)) × (Int32 → Int32 → Int64 → Int64 → Int32 → Int32 → MH → Option (Int64 × MH))) (a1 : Int32) (a2 : Int32) (a3 : Int64) (a5 : Int64) (a7 : Int32) (h : MH) : Option (Int64 × MH) :=
  if a2 < a7 then
  (some (a5, h))
  else
  (let v1 : Int64 := a5 + a3
  F_Shakes_left_21 N bk a1 a2 a3 v1 a7 0 h)
def F_Shakes_left_0 (N : Nat) (bk : (Int32 → Int32 → Int64 → Int64 → Int32 → MH → Option (Int64 × MH)) × (Int32 → Int32 → Int64 → Int64 → Int32 → Int32 → MH → Option (Int64 × MH))) (a1 : Int32) (a2 : Int32) (a3 : Int64) (h : MH) : Option (Int64 × MH) :=
  F_Shakes_left_6 N bk a1 a2 a3 0 0 h
def L_Shakes_left (N : Nat) : Nat → ((Int32 → Int32 → Int64 → Int64 → Int32 → MH → Option (Int64 × MH)) × (Int32 → Int32 → Int64 → Int64 → Int32 → Int32 → MH → Option (Int64 × MH)))
  | 0 => (fun _ _ _ _ _ _ => none, fun _ _ _ _ _ _ _ => none)
  | n + 1 => (F_Shakes_left_6 N (L_Shakes_left N n), F_Shakes_left_21 N (L_Shakes_left N n))
def f_Shakes_left (N : Nat) (a1 : Int32) (a2 : Int32) (a3 : Int64) (h : MH) : Option (Int64 × MH) := F_Shakes_left_0 N (L_Shakes_left N N) a1 a2 a3 h
def C_Shakes_left (N : Nat) : MC := (KDL, false, (fun _ => 0), jsB, (fun _ _ _ => none), (fun j => match Nat.beq j 262 with
    | true => w_Math_min_JJ (f_Math_min_JJ N)
    | false => fun _ _ => none), (fun _ _ _ => none), (fun _ _ _ => none))
def D_Shakes_left (N : Nat) (n pc : Nat) (lv : ML) (st : List MV) (h : MH) : Option (Int64 × MH) :=
  match Nat.beq pc 0 with
  | true => (match lk lv 0, lk lv 1, lk lv 2, lk lv 3, st with
    | some (.inr (.inr (0, 8, 29))), some (.inl a1), some (.inl a2), some (.inr (.inl a3)), [] => F_Shakes_left_0 N (L_Shakes_left N n) a1 a2 a3 h
    | _, _, _, _, _ => none)
  | false => match Nat.beq pc 6 with
  | true => (match lk lv 0, lk lv 1, lk lv 2, lk lv 3, lk lv 5, lk lv 7, st with
    | some (.inr (.inr (0, 8, 29))), some (.inl a1), some (.inl a2), some (.inr (.inl a3)), some (.inr (.inl a5)), some (.inl a7), [] => F_Shakes_left_6 N (L_Shakes_left N n) a1 a2 a3 a5 a7 h
    | _, _, _, _, _, _, _ => none)
  | false => match Nat.beq pc 21 with
  | true => (match lk lv 0, lk lv 1, lk lv 2, lk lv 3, lk lv 5, lk lv 7, lk lv 8, st with
    | some (.inr (.inr (0, 8, 29))), some (.inl a1), some (.inl a2), some (.inr (.inl a3)), some (.inr (.inl a5)), some (.inl a7), some (.inl a8), [] => F_Shakes_left_21 N (L_Shakes_left N n) a1 a2 a3 a5 a7 a8 h
    | _, _, _, _, _, _, _, _ => none)
  | false => none
def B_Shakes_left (N : Nat) (n pc : Nat) (lv : ML) (st : List MV) (h : MH) : Option (Int64 × MH) :=
  match Nat.beq pc 6 with
  | true => (match lk lv 0, lk lv 1, lk lv 2, lk lv 3, lk lv 5, lk lv 7, st with
    | some (.inr (.inr (0, 8, 29))), some (.inl a1), some (.inl a2), some (.inr (.inl a3)), some (.inr (.inl a5)), some (.inl a7), [] => ((L_Shakes_left N n).1) a1 a2 a3 a5 a7 h
    | _, _, _, _, _, _, _ => none)
  | false => match Nat.beq pc 21 with
  | true => (match lk lv 0, lk lv 1, lk lv 2, lk lv 3, lk lv 5, lk lv 7, lk lv 8, st with
    | some (.inr (.inr (0, 8, 29))), some (.inl a1), some (.inl a2), some (.inr (.inl a3)), some (.inr (.inl a5)), some (.inl a7), some (.inl a8), [] => ((L_Shakes_left N n).2) a1 a2 a3 a5 a7 a8 h
    | _, _, _, _, _, _, _, _ => none)
  | false => none
set_option maxRecDepth 1000000 in
theorem E_Shakes_left_0 (N : Nat) (n : Nat) (a1 : Int32) (a2 : Int32) (a3 : Int64) (h : MH) : seg (C_Shakes_left N) 9 0 rJ T_Shakes_left [0, 6, 21] (fun q lv st h => match Nat.ble 1 q with
    | true => D_Shakes_left N n q lv st h
    | false => B_Shakes_left N n q lv st h) 400 true 0 [(0, .inr (.inr (0, 8, 29))), (1, .inl a1), (2, .inl a2), (3, .inr (.inl a3))] [] h = F_Shakes_left_0 N (L_Shakes_left N n) a1 a2 a3 h := (rfl)
set_option maxRecDepth 1000000 in
theorem E_Shakes_left_6 (N : Nat) (n : Nat) (a1 : Int32) (a2 : Int32) (a3 : Int64) (a5 : Int64) (a7 : Int32) (h : MH) : seg (C_Shakes_left N) 9 0 rJ T_Shakes_left [0, 6, 21] (fun q lv st h => match Nat.ble 7 q with
    | true => D_Shakes_left N n q lv st h
    | false => B_Shakes_left N n q lv st h) 400 true 6 [(0, .inr (.inr (0, 8, 29))), (1, .inl a1), (2, .inl a2), (3, .inr (.inl a3)), (5, .inr (.inl a5)), (7, .inl a7)] [] h = F_Shakes_left_6 N (L_Shakes_left N n) a1 a2 a3 a5 a7 h := (rfl)
set_option maxRecDepth 1000000 in
theorem E_Shakes_left_21 (N : Nat) (n : Nat) (a1 : Int32) (a2 : Int32) (a3 : Int64) (a5 : Int64) (a7 : Int32) (a8 : Int32) (h : MH) : seg (C_Shakes_left N) 9 0 rJ T_Shakes_left [0, 6, 21] (fun q lv st h => match Nat.ble 22 q with
    | true => D_Shakes_left N n q lv st h
    | false => B_Shakes_left N n q lv st h) 400 true 21 [(0, .inr (.inr (0, 8, 29))), (1, .inl a1), (2, .inl a2), (3, .inr (.inl a3)), (5, .inr (.inl a5)), (7, .inl a7), (8, .inl a8)] [] h = F_Shakes_left_21 N (L_Shakes_left N n) a1 a2 a3 a5 a7 a8 h := (rfl)
def T_Tray_isMissing : List (List (Option RW)) := [
  [some (.aload_n 0, 1, [0], 0, 0), some (.getfield 19, 3, [9, 2, 0], 0, 0), none, none, some (.ifCond .ge 7, 3, [11], 0, 0), none, none, some (.iconst 1, 1, [], 1, 0), some (.goto 4, 3, [12], 0, 0), none, none, some (.iconst 0, 1, [], 0, 0), some (.ireturn, 1, [], 0, 0)]]
def f_Tray_isMissing (N : Nat) (r0 : Nat) (h : MH) : Option (Int32 × MH) :=
  if 0 ≤ (gI h r0 2) then
  (some (0, h))
  else
  (some (1, h))
def C_Tray_isMissing (N : Nat) : MC := (KDL, false, (fun _ => 0), jsB, (fun _ _ _ => none), (fun _ _ _ => none), (fun _ _ _ => none), (fun _ _ _ => none))
def D_Tray_isMissing (N : Nat) (n pc : Nat) (lv : ML) (st : List MV) (h : MH) : Option (Int32 × MH) :=
  match Nat.beq pc 0 with
  | true => (match lk lv 0, st with
    | some (.inr (.inr (0, 9, r0))), [] => f_Tray_isMissing N r0 h
    | _, _ => none)
  | false => none
set_option maxRecDepth 1000000 in
theorem E_Tray_isMissing_0 (N : Nat) (n : Nat) (r0 : Nat) (h : MH) : seg (C_Tray_isMissing N) 1 1 rI T_Tray_isMissing [0] (fun q lv st h => match Nat.ble 1 q with
    | true => D_Tray_isMissing N n q lv st h
    | false => none) 400 true 0 [(0, .inr (.inr (0, 9, r0)))] [] h = f_Tray_isMissing N r0 h := (rfl)
def T_Arrays_fill_AJJ : List (List (Option RW)) := [
  [some (.iconst 0, 1, [], 0, 0), some (.istore_n 3, 1, [3], 0, 0), some (.aload_n 0, 1, [0], 0, 0), some (.arraylength, 1, [], 0, 0), some (.istore 4, 2, [4], 0, 0), none, some (.iload_n 3, 1, [3], 0, 0), some (.iload 4, 2, [4], 0, 0), none, some (.if_icmp .ge 13, 3, [22], 0, 0), none, none, some (.aload_n 0, 1, [0], 0, 0), some (.iload_n 3, 1, [3], 0, 0), some (.lload_n 1, 1, [1], 0, 0), some (.lastore, 1, [], 0, 0), some (.iinc 3 1, 3, [3], 1, 0), none, none, some (.goto (-13), 3, [6], 0, 0), none, none, some (.return_, 1, [], 0, 0)]]
def F_Arrays_fill_AJJ_6 (N : Nat) (bk : (Nat → Nat → Int64 → Int32 → Int32 → MH → Option (MH))) (q0 : Nat) (r0 : Nat) (a1 : Int64) (a3 : Int32) (a4 : Int32) (h : MH) : Option (MH) :=
  if a4 ≤ a3 then
  (some h)
  else
  (if inB a3 q0 = true then
  (let h2 : MH := sJ h r0 (iN a3) a1
  let v3 : Int32 := a3 + 1
  bk q0 r0 a1 v3 a4 h2)
  else none)
def F_Arrays_fill_AJJ_0 (N : Nat) (bk : (Nat → Nat → Int64 → Int32 → Int32 → MH → Option (MH))) (q0 : Nat) (r0 : Nat) (a1 : Int64) (h : MH) : Option (MH) :=
  let v1 : Int32 := nI q0
  F_Arrays_fill_AJJ_6 N bk q0 r0 a1 0 v1 h
def L_Arrays_fill_AJJ (N : Nat) : Nat → (Nat → Nat → Int64 → Int32 → Int32 → MH → Option (MH))
  | 0 => fun _ _ _ _ _ _ => none
  | n + 1 => F_Arrays_fill_AJJ_6 N (L_Arrays_fill_AJJ N n)
def f_Arrays_fill_AJJ (N : Nat) (q0 : Nat) (r0 : Nat) (a1 : Int64) (h : MH) : Option (MH) := F_Arrays_fill_AJJ_0 N (L_Arrays_fill_AJJ N N) q0 r0 a1 h
def C_Arrays_fill_AJJ (N : Nat) : MC := (KDL, false, (fun _ => 0), jsB, (fun _ _ _ => none), (fun _ _ _ => none), (fun _ _ _ => none), (fun _ _ _ => none))
def D_Arrays_fill_AJJ (N : Nat) (n pc : Nat) (lv : ML) (st : List MV) (h : MH) : Option (MH) :=
  match Nat.beq pc 0 with
  | true => (match lk lv 0, lk lv 1, st with
    | some (.inr (.inr (2, q0, r0))), some (.inr (.inl a1)), [] => F_Arrays_fill_AJJ_0 N (L_Arrays_fill_AJJ N n) q0 r0 a1 h
    | _, _, _ => none)
  | false => match Nat.beq pc 6 with
  | true => (match lk lv 0, lk lv 1, lk lv 3, lk lv 4, st with
    | some (.inr (.inr (2, q0, r0))), some (.inr (.inl a1)), some (.inl a3), some (.inl a4), [] => F_Arrays_fill_AJJ_6 N (L_Arrays_fill_AJJ N n) q0 r0 a1 a3 a4 h
    | _, _, _, _, _ => none)
  | false => none
def B_Arrays_fill_AJJ (N : Nat) (n pc : Nat) (lv : ML) (st : List MV) (h : MH) : Option (MH) :=
  match Nat.beq pc 6 with
  | true => (match lk lv 0, lk lv 1, lk lv 3, lk lv 4, st with
    | some (.inr (.inr (2, q0, r0))), some (.inr (.inl a1)), some (.inl a3), some (.inl a4), [] => ((L_Arrays_fill_AJJ N n)) q0 r0 a1 a3 a4 h
    | _, _, _, _, _ => none)
  | false => none
set_option maxRecDepth 1000000 in
theorem E_Arrays_fill_AJJ_0 (N : Nat) (n : Nat) (q0 : Nat) (r0 : Nat) (a1 : Int64) (h : MH) : seg (C_Arrays_fill_AJJ N) 5 0 rV T_Arrays_fill_AJJ [0, 6] (fun q lv st h => match Nat.ble 1 q with
    | true => D_Arrays_fill_AJJ N n q lv st h
    | false => B_Arrays_fill_AJJ N n q lv st h) 400 true 0 [(0, .inr (.inr (2, q0, r0))), (1, .inr (.inl a1))] [] h = F_Arrays_fill_AJJ_0 N (L_Arrays_fill_AJJ N n) q0 r0 a1 h := (rfl)
set_option maxRecDepth 1000000 in
theorem E_Arrays_fill_AJJ_6 (N : Nat) (n : Nat) (q0 : Nat) (r0 : Nat) (a1 : Int64) (a3 : Int32) (a4 : Int32) (h : MH) : seg (C_Arrays_fill_AJJ N) 5 0 rV T_Arrays_fill_AJJ [0, 6] (fun q lv st h => match Nat.ble 7 q with
    | true => D_Arrays_fill_AJJ N n q lv st h
    | false => B_Arrays_fill_AJJ N n q lv st h) 400 true 6 [(0, .inr (.inr (2, q0, r0))), (1, .inr (.inl a1)), (3, .inl a3), (4, .inl a4)] [] h = F_Arrays_fill_AJJ_6 N (L_Arrays_fill_AJJ N n) q0 r0 a1 a3 a4 h := (rfl)
def T_Tray_lay : List (List (Option RW)) := [
  [some (.aload_n 0, 1, [0], 0, 0), some (.iload_n 1, 1, [1], 0, 0), some (.putfield 15, 3, [9, 1, 0], 0, 0), none, none, some (.aload_n 0, 1, [0], 0, 0), some (.iload_n 2, 1, [2], 0, 0), some (.putfield 19, 3, [9, 2, 0], 0, 0), none, none, some (.aload_n 0, 1, [0], 0, 0), some (.getfield 9, 3, [9, 0, 2, 2, 60, 1], 0, 0), none, none, some (.lconst 0, 1, [], 0, 0), some (.invokestatic 22, 3, [2, 273, 2, 3], 0, 0), none, none, some (.return_, 1, [], 0, 0)]]
def f_Tray_lay (N : Nat) (r0 : Nat) (a1 : Int32) (a2 : Int32) (h : MH) : Option (MH) :=
  let h1 : MH := sI h r0 1 a1
  let h2 : MH := sI h1 r0 2 a2
  (f_Arrays_fill_AJJ N 60 (r0 + 1) 0 h2).bind (fun x3 =>
  some x3)
def C_Tray_lay (N : Nat) : MC := (KDL, false, (fun _ => 0), jsB, (fun _ _ _ => none), (fun _ _ _ => none), (fun _ _ _ => none), (fun j => match Nat.beq j 273 with
    | true => w_Arrays_fill_AJJ (f_Arrays_fill_AJJ N)
    | false => fun _ _ => none))
def D_Tray_lay (N : Nat) (n pc : Nat) (lv : ML) (st : List MV) (h : MH) : Option (MH) :=
  match Nat.beq pc 0 with
  | true => (match lk lv 0, lk lv 1, lk lv 2, st with
    | some (.inr (.inr (0, 9, r0))), some (.inl a1), some (.inl a2), [] => f_Tray_lay N r0 a1 a2 h
    | _, _, _, _ => none)
  | false => none
set_option maxRecDepth 1000000 in
theorem E_Tray_lay_0 (N : Nat) (n : Nat) (r0 : Nat) (a1 : Int32) (a2 : Int32) (h : MH) : seg (C_Tray_lay N) 3 0 rV T_Tray_lay [0] (fun q lv st h => match Nat.ble 1 q with
    | true => D_Tray_lay N n q lv st h
    | false => none) 400 true 0 [(0, .inr (.inr (0, 9, r0))), (1, .inl a1), (2, .inl a2)] [] h = f_Tray_lay N r0 a1 a2 h := (rfl)
def T_Tray_reaches : List (List (Option RW)) := [
  [some (.iload_n 1, 1, [1], 0, 0), some (.aload_n 0, 1, [0], 0, 0), some (.getfield 19, 3, [9, 2, 0], 0, 0), none, none, some (.if_icmp .gt 17, 3, [22], 0, 0), none, none, some (.iload_n 2, 1, [2], 0, 0), some (.aload_n 0, 1, [0], 0, 0), some (.getfield 19, 3, [9, 2, 0], 0, 0), none, none, some (.iload_n 1, 1, [1], 0, 0), some (.isub, 1, [], 0, 0), some (.if_icmp .gt 7, 3, [22], 0, 0), none, none, some (.iconst 1, 1, [], 1, 0), some (.goto 4, 3, [23], 0, 0), none, none, some (.iconst 0, 1, [], 0, 0), some (.ireturn, 1, [], 0, 0)]]
def f_Tray_reaches (N : Nat) (r0 : Nat) (a1 : Int32) (a2 : Int32) (h : MH) : Option (Int32 × MH) :=
  if (gI h r0 2) < a1 then
  (some (0, h))
  else
  (if ((gI h r0 2) - a1) < a2 then
  (some (0, h))
  else
  (some (1, h)))
def C_Tray_reaches (N : Nat) : MC := (KDL, false, (fun _ => 0), jsB, (fun _ _ _ => none), (fun _ _ _ => none), (fun _ _ _ => none), (fun _ _ _ => none))
def D_Tray_reaches (N : Nat) (n pc : Nat) (lv : ML) (st : List MV) (h : MH) : Option (Int32 × MH) :=
  match Nat.beq pc 0 with
  | true => (match lk lv 0, lk lv 1, lk lv 2, st with
    | some (.inr (.inr (0, 9, r0))), some (.inl a1), some (.inl a2), [] => f_Tray_reaches N r0 a1 a2 h
    | _, _, _, _ => none)
  | false => none
set_option maxRecDepth 1000000 in
theorem E_Tray_reaches_0 (N : Nat) (n : Nat) (r0 : Nat) (a1 : Int32) (a2 : Int32) (h : MH) : seg (C_Tray_reaches N) 3 1 rI T_Tray_reaches [0] (fun q lv st h => match Nat.ble 1 q with
    | true => D_Tray_reaches N n q lv st h
    | false => none) 400 true 0 [(0, .inr (.inr (0, 9, r0))), (1, .inl a1), (2, .inl a2)] [] h = f_Tray_reaches N r0 a1 a2 h := (rfl)
def T_Tray_put : List (List (Option RW)) := [
  [some (.iload_n 1, 1, [1], 0, 0), some (.bipush 60, 2, [], 60, 0), none, some (.invokestatic 28, 3, [3, 151, 2, 0], 0, 0), none, none, some (.ifCond .ne 4, 3, [10], 0, 0), none, none, some (.return_, 1, [], 0, 0), some (.aload_n 0, 1, [0], 0, 0), some (.getfield 15, 3, [9, 1, 0], 0, 0), none, none, some (.ifCond .ne 16, 3, [30], 0, 0), none, none, some (.aload_n 0, 1, [0], 0, 0), some (.getfield 9, 3, [9, 0, 2, 2, 60, 1], 0, 0), none, none, some (.iload_n 1, 1, [1], 0, 0), some (.lload_n 2, 1, [2], 0, 0), some (.l2i, 1, [], 0, 0), some (.i2b, 1, [], 0, 0), some (.i2l, 1, [], 0, 0), some (.lastore, 1, [], 0, 0), some (.goto 51, 3, [78], 0, 0), none, none, some (.aload_n 0, 1, [0], 0, 0), some (.getfield 15, 3, [9, 1, 0], 0, 0)],
  [none, none, some (.iconst 1, 1, [], 1, 0), some (.if_icmp .ne 16, 3, [51], 0, 0), none, none, some (.aload_n 0, 1, [0], 0, 0), some (.getfield 9, 3, [9, 0, 2, 2, 60, 1], 0, 0), none, none, some (.iload_n 1, 1, [1], 0, 0), some (.lload_n 2, 1, [2], 0, 0), some (.l2i, 1, [], 0, 0), some (.i2s, 1, [], 0, 0), some (.i2l, 1, [], 0, 0), some (.lastore, 1, [], 0, 0), some (.goto 30, 3, [78], 0, 0), none, none, some (.aload_n 0, 1, [0], 0, 0), some (.getfield 15, 3, [9, 1, 0], 0, 0), none, none, some (.iconst 2, 1, [], 2, 0), some (.if_icmp .ne 15, 3, [71], 0, 0), none, none, some (.aload_n 0, 1, [0], 0, 0), some (.getfield 9, 3, [9, 0, 2, 2, 60, 1], 0, 0), none, none, some (.iload_n 1, 1, [1], 0, 0)],
  [some (.lload_n 2, 1, [2], 0, 0), some (.l2i, 1, [], 0, 0), some (.i2l, 1, [], 0, 0), some (.lastore, 1, [], 0, 0), some (.goto 10, 3, [78], 0, 0), none, none, some (.aload_n 0, 1, [0], 0, 0), some (.getfield 9, 3, [9, 0, 2, 2, 60, 1], 0, 0), none, none, some (.iload_n 1, 1, [1], 0, 0), some (.lload_n 2, 1, [2], 0, 0), some (.lastore, 1, [], 0, 0), some (.return_, 1, [], 0, 0)]]
def f_Tray_put (N : Nat) (r0 : Nat) (a1 : Int32) (a2 : Int64) (h : MH) : Option (MH) :=
  (f_S_isOneOf N a1 60 h).bind (fun x1 =>
  if x1.1 = 0 then
  (some x1.2)
  else
  (if (gI x1.2 r0 1) = 0 then
  (if inB a1 60 = true then
  (let h2 : MH := sJ x1.2 (r0 + 1) (iN a1) (((((Int64.toInt32 a2)).toInt8.toInt32)).toInt64)
  some h2)
  else none)
  else
  (if (gI x1.2 r0 1) = 1 then
  (if inB a1 60 = true then
  (let h3 : MH := sJ x1.2 (r0 + 1) (iN a1) (((((Int64.toInt32 a2)).toInt16.toInt32)).toInt64)
  some h3)
  else none)
  else
  (if (gI x1.2 r0 1) = 2 then
  (if inB a1 60 = true then
  (let h4 : MH := sJ x1.2 (r0 + 1) (iN a1) (((Int64.toInt32 a2)).toInt64)
  some h4)
  else none)
  else
  (if inB a1 60 = true then
  (let h5 : MH := sJ x1.2 (r0 + 1) (iN a1) a2
  some h5)
  else none)))))
def C_Tray_put (N : Nat) : MC := (KDL, false, (fun _ => 0), jsB, (fun j => match Nat.beq j 151 with
    | true => w_S_isOneOf (f_S_isOneOf N)
    | false => fun _ _ => none), (fun _ _ _ => none), (fun _ _ _ => none), (fun _ _ _ => none))
def D_Tray_put (N : Nat) (n pc : Nat) (lv : ML) (st : List MV) (h : MH) : Option (MH) :=
  match Nat.beq pc 0 with
  | true => (match lk lv 0, lk lv 1, lk lv 2, st with
    | some (.inr (.inr (0, 9, r0))), some (.inl a1), some (.inr (.inl a2)), [] => f_Tray_put N r0 a1 a2 h
    | _, _, _, _ => none)
  | false => none
set_option maxRecDepth 1000000 in
theorem E_Tray_put_0 (N : Nat) (n : Nat) (r0 : Nat) (a1 : Int32) (a2 : Int64) (h : MH) : seg (C_Tray_put N) 4 0 rV T_Tray_put [0] (fun q lv st h => match Nat.ble 1 q with
    | true => D_Tray_put N n q lv st h
    | false => none) 400 true 0 [(0, .inr (.inr (0, 9, r0))), (1, .inl a1), (2, .inr (.inl a2))] [] h = f_Tray_put N r0 a1 a2 h := (rfl)
def T_Tray_allWithin : List (List (Option RW)) := [
  [some (.iconst 0, 1, [], 0, 0), some (.istore 4, 2, [4], 0, 0), none, some (.iload 4, 2, [4], 0, 0), none, some (.iload_n 1, 1, [1], 0, 0), some (.if_icmp .ge 35, 3, [41], 0, 0), none, none, some (.aload_n 0, 1, [0], 0, 0), some (.iload 4, 2, [4], 0, 0), none, some (.invokevirtual 34, 3, [0, 87, 2, 1], 0, 0), none, none, some (.iload_n 2, 1, [2], 0, 0), some (.i2l, 1, [], 0, 0), some (.lcmp, 1, [], 0, 0), some (.ifCond .lt 15, 3, [33], 0, 0), none, none, some (.aload_n 0, 1, [0], 0, 0), some (.iload 4, 2, [4], 0, 0), none, some (.invokevirtual 34, 3, [0, 87, 2, 1], 0, 0), none, none, some (.iload_n 3, 1, [3], 0, 0), some (.i2l, 1, [], 0, 0), some (.lcmp, 1, [], 0, 0), some (.ifCond .le 5, 3, [35], 0, 0), none],
  [none, some (.iconst 0, 1, [], 0, 0), some (.ireturn, 1, [], 0, 0), some (.iinc 4 1, 3, [4], 1, 0), none, none, some (.goto (-35), 3, [3], 0, 0), none, none, some (.iconst 1, 1, [], 1, 0), some (.ireturn, 1, [], 0, 0)]]
def F_Tray_allWithin_3 (N : Nat) (bk : (Nat → Int32 → Int32 → Int32 → Int32 → MH → Option (Int32 × MH))) (r0 : Nat) (a1 : Int32) (a2 : Int32) (a3 : Int32) (a4 : Int32) (h : MH) : Option (Int32 × MH) :=
  if a1 ≤ a4 then
  (some (1, h))
  else
  ((f_Tray_at N r0 a4 h).bind (fun x1 =>
  if (lg_cmp x1.1 a2.toInt64) < 0 then
  (some (0, x1.2))
  else
  ((f_Tray_at N r0 a4 x1.2).bind (fun x2 =>
  if (lg_cmp x2.1 a3.toInt64) ≤ 0 then
  (let v3 : Int32 := a4 + 1
  bk r0 a1 a2 a3 v3 x2.2)
  else
  (some (0, x2.2))))))
def F_Tray_allWithin_0 (N : Nat) (bk : (Nat → Int32 → Int32 → Int32 → Int32 → MH → Option (Int32 × MH))) (r0 : Nat) (a1 : Int32) (a2 : Int32) (a3 : Int32) (h : MH) : Option (Int32 × MH) :=
  F_Tray_allWithin_3 N bk r0 a1 a2 a3 0 h
def L_Tray_allWithin (N : Nat) : Nat → (Nat → Int32 → Int32 → Int32 → Int32 → MH → Option (Int32 × MH))
  | 0 => fun _ _ _ _ _ _ => none
  | n + 1 => F_Tray_allWithin_3 N (L_Tray_allWithin N n)
def f_Tray_allWithin (N : Nat) (r0 : Nat) (a1 : Int32) (a2 : Int32) (a3 : Int32) (h : MH) : Option (Int32 × MH) := F_Tray_allWithin_0 N (L_Tray_allWithin N N) r0 a1 a2 a3 h
def C_Tray_allWithin (N : Nat) : MC := (KDL, false, (fun _ => 0), jsB, (fun _ _ _ => none), (fun j => match Nat.beq j 87 with
    | true => w_Tray_at (f_Tray_at N)
    | false => fun _ _ => none), (fun _ _ _ => none), (fun _ _ _ => none))
def D_Tray_allWithin (N : Nat) (n pc : Nat) (lv : ML) (st : List MV) (h : MH) : Option (Int32 × MH) :=
  match Nat.beq pc 0 with
  | true => (match lk lv 0, lk lv 1, lk lv 2, lk lv 3, st with
    | some (.inr (.inr (0, 9, r0))), some (.inl a1), some (.inl a2), some (.inl a3), [] => F_Tray_allWithin_0 N (L_Tray_allWithin N n) r0 a1 a2 a3 h
    | _, _, _, _, _ => none)
  | false => match Nat.beq pc 3 with
  | true => (match lk lv 0, lk lv 1, lk lv 2, lk lv 3, lk lv 4, st with
    | some (.inr (.inr (0, 9, r0))), some (.inl a1), some (.inl a2), some (.inl a3), some (.inl a4), [] => F_Tray_allWithin_3 N (L_Tray_allWithin N n) r0 a1 a2 a3 a4 h
    | _, _, _, _, _, _ => none)
  | false => none
def B_Tray_allWithin (N : Nat) (n pc : Nat) (lv : ML) (st : List MV) (h : MH) : Option (Int32 × MH) :=
  match Nat.beq pc 3 with
  | true => (match lk lv 0, lk lv 1, lk lv 2, lk lv 3, lk lv 4, st with
    | some (.inr (.inr (0, 9, r0))), some (.inl a1), some (.inl a2), some (.inl a3), some (.inl a4), [] => ((L_Tray_allWithin N n)) r0 a1 a2 a3 a4 h
    | _, _, _, _, _, _ => none)
  | false => none
set_option maxRecDepth 1000000 in
theorem E_Tray_allWithin_0 (N : Nat) (n : Nat) (r0 : Nat) (a1 : Int32) (a2 : Int32) (a3 : Int32) (h : MH) : seg (C_Tray_allWithin N) 5 1 rI T_Tray_allWithin [0, 3] (fun q lv st h => match Nat.ble 1 q with
    | true => D_Tray_allWithin N n q lv st h
    | false => B_Tray_allWithin N n q lv st h) 400 true 0 [(0, .inr (.inr (0, 9, r0))), (1, .inl a1), (2, .inl a2), (3, .inl a3)] [] h = F_Tray_allWithin_0 N (L_Tray_allWithin N n) r0 a1 a2 a3 h := (rfl)
set_option maxRecDepth 1000000 in
theorem E_Tray_allWithin_3 (N : Nat) (n : Nat) (r0 : Nat) (a1 : Int32) (a2 : Int32) (a3 : Int32) (a4 : Int32) (h : MH) : seg (C_Tray_allWithin N) 5 1 rI T_Tray_allWithin [0, 3] (fun q lv st h => match Nat.ble 4 q with
    | true => D_Tray_allWithin N n q lv st h
    | false => B_Tray_allWithin N n q lv st h) 400 true 3 [(0, .inr (.inr (0, 9, r0))), (1, .inl a1), (2, .inl a2), (3, .inl a3), (4, .inl a4)] [] h = F_Tray_allWithin_3 N (L_Tray_allWithin N n) r0 a1 a2 a3 a4 h := (rfl)
def T_Tray_sumOf : List (List (Option RW)) := [
  [some (.iconst 0, 1, [], 0, 0), some (.istore_n 3, 1, [3], 0, 0), some (.iconst 0, 1, [], 0, 0), some (.istore 4, 2, [4], 0, 0), none, some (.iload 4, 2, [4], 0, 0), none, some (.iload_n 2, 1, [2], 0, 0), some (.if_icmp .ge 28, 3, [36], 0, 0), none, none, some (.iload_n 1, 1, [1], 0, 0), some (.iload 4, 2, [4], 0, 0), none, some (.ishr, 1, [], 0, 0), some (.iconst 1, 1, [], 1, 0), some (.iand, 1, [], 0, 0), some (.ifCond .eq 13, 3, [30], 0, 0), none, none, some (.iload_n 3, 1, [3], 0, 0), some (.aload_n 0, 1, [0], 0, 0), some (.iload 4, 2, [4], 0, 0), none, some (.invokevirtual 34, 3, [0, 87, 2, 1], 0, 0), none, none, some (.l2i, 1, [], 0, 0), some (.iadd, 1, [], 0, 0), some (.istore_n 3, 1, [3], 0, 0), some (.iinc 4 1, 3, [4], 1, 0), none],
  [none, some (.goto (-28), 3, [5], 0, 0), none, none, some (.iload_n 3, 1, [3], 0, 0), some (.ireturn, 1, [], 0, 0)]]
def F_Tray_sumOf_5 (N : Nat) (bk : (Nat → Int32 → Int32 → Int32 → Int32 → MH → Option (Int32 × MH))) (r0 : Nat) (a1 : Int32) (a2 : Int32) (a3 : Int32) (a4 : Int32) (h : MH) : Option (Int32 × MH) :=
  if a2 ≤ a4 then
  (some (a3, h))
  else
  (if ((a1 >>> (a4 &&& 31)) &&& 1) = 0 then
  (let v1 : Int32 := a4 + 1
  bk r0 a1 a2 a3 v1 h)
  else
  ((f_Tray_at N r0 a4 h).bind (fun x2 =>
  let v3 : Int32 := a3 + (Int64.toInt32 x2.1)
  let v4 : Int32 := a4 + 1
  bk r0 a1 a2 v3 v4 x2.2)))
def F_Tray_sumOf_0 (N : Nat) (bk : (Nat → Int32 → Int32 → Int32 → Int32 → MH → Option (Int32 × MH))) (r0 : Nat) (a1 : Int32) (a2 : Int32) (h : MH) : Option (Int32 × MH) :=
  F_Tray_sumOf_5 N bk r0 a1 a2 0 0 h
def L_Tray_sumOf (N : Nat) : Nat → (Nat → Int32 → Int32 → Int32 → Int32 → MH → Option (Int32 × MH))
  | 0 => fun _ _ _ _ _ _ => none
  | n + 1 => F_Tray_sumOf_5 N (L_Tray_sumOf N n)
def f_Tray_sumOf (N : Nat) (r0 : Nat) (a1 : Int32) (a2 : Int32) (h : MH) : Option (Int32 × MH) := F_Tray_sumOf_0 N (L_Tray_sumOf N N) r0 a1 a2 h
def C_Tray_sumOf (N : Nat) : MC := (KDL, false, (fun _ => 0), jsB, (fun _ _ _ => none), (fun j => match Nat.beq j 87 with
    | true => w_Tray_at (f_Tray_at N)
    | false => fun _ _ => none), (fun _ _ _ => none), (fun _ _ _ => none))
def D_Tray_sumOf (N : Nat) (n pc : Nat) (lv : ML) (st : List MV) (h : MH) : Option (Int32 × MH) :=
  match Nat.beq pc 0 with
  | true => (match lk lv 0, lk lv 1, lk lv 2, st with
    | some (.inr (.inr (0, 9, r0))), some (.inl a1), some (.inl a2), [] => F_Tray_sumOf_0 N (L_Tray_sumOf N n) r0 a1 a2 h
    | _, _, _, _ => none)
  | false => match Nat.beq pc 5 with
  | true => (match lk lv 0, lk lv 1, lk lv 2, lk lv 3, lk lv 4, st with
    | some (.inr (.inr (0, 9, r0))), some (.inl a1), some (.inl a2), some (.inl a3), some (.inl a4), [] => F_Tray_sumOf_5 N (L_Tray_sumOf N n) r0 a1 a2 a3 a4 h
    | _, _, _, _, _, _ => none)
  | false => none
def B_Tray_sumOf (N : Nat) (n pc : Nat) (lv : ML) (st : List MV) (h : MH) : Option (Int32 × MH) :=
  match Nat.beq pc 5 with
  | true => (match lk lv 0, lk lv 1, lk lv 2, lk lv 3, lk lv 4, st with
    | some (.inr (.inr (0, 9, r0))), some (.inl a1), some (.inl a2), some (.inl a3), some (.inl a4), [] => ((L_Tray_sumOf N n)) r0 a1 a2 a3 a4 h
    | _, _, _, _, _, _ => none)
  | false => none
set_option maxRecDepth 1000000 in
theorem E_Tray_sumOf_0 (N : Nat) (n : Nat) (r0 : Nat) (a1 : Int32) (a2 : Int32) (h : MH) : seg (C_Tray_sumOf N) 5 0 rI T_Tray_sumOf [0, 5] (fun q lv st h => match Nat.ble 1 q with
    | true => D_Tray_sumOf N n q lv st h
    | false => B_Tray_sumOf N n q lv st h) 400 true 0 [(0, .inr (.inr (0, 9, r0))), (1, .inl a1), (2, .inl a2)] [] h = F_Tray_sumOf_0 N (L_Tray_sumOf N n) r0 a1 a2 h := (rfl)
set_option maxRecDepth 1000000 in
theorem E_Tray_sumOf_5 (N : Nat) (n : Nat) (r0 : Nat) (a1 : Int32) (a2 : Int32) (a3 : Int32) (a4 : Int32) (h : MH) : seg (C_Tray_sumOf N) 5 0 rI T_Tray_sumOf [0, 5] (fun q lv st h => match Nat.ble 6 q with
    | true => D_Tray_sumOf N n q lv st h
    | false => B_Tray_sumOf N n q lv st h) 400 true 5 [(0, .inr (.inr (0, 9, r0))), (1, .inl a1), (2, .inl a2), (3, .inl a3), (4, .inl a4)] [] h = F_Tray_sumOf_5 N (L_Tray_sumOf N n) r0 a1 a2 a3 a4 h := (rfl)
