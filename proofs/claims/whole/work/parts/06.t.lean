def T_S_isSetOfCells : List (List (Option RW)) := [
  [some (.iload_n 1, 1, [1], 0, 0), some (.iconst 1, 1, [], 1, 0), some (.iconst 1, 1, [], 1, 0), some (.aload_n 0, 1, [0], 0, 0), some (.getfield 81, 3, [11, 11, 3, 0, 2], 0, 0), none, none, some (.getfield 189, 3, [2, 0, 0], 0, 0), none, none, some (.ishl, 1, [], 0, 0), some (.iconst 1, 1, [], 1, 0), some (.isub, 1, [], 0, 0), some (.invokestatic 207, 3, [2, 150, 3, 0], 0, 0), none, none, some (.ireturn, 1, [], 0, 0)]]
def f_S_isSetOfCells (N : Nat) (a1 : Int32) (h : MH) : Option (Int32 × MH) :=
  (f_S_isWithin N a1 1 (((1 : Int32) <<< ((gI h (gR h 1 11) 0) &&& 31)) - 1) h).bind (fun x1 =>
  match narOK 1 x1.1 with
  | true => some (x1.1, x1.2)
  | false => none)
def C_S_isSetOfCells (N : Nat) : MC := (KDL, false, (fun _ => 0), jsB, (fun j => match Nat.beq j 150 with
    | true => w_S_isWithin (f_S_isWithin N)
    | false => fun _ _ => none), (fun _ _ _ => none), (fun _ _ _ => none), (fun _ _ _ => none))
def D_S_isSetOfCells (N : Nat) (n pc : Nat) (lv : ML) (st : List MV) (h : MH) : Option (Int32 × MH) :=
  match Nat.beq pc 0 with
  | true => (match lk lv 0, lk lv 1, st with
    | some (.inr (.inr (0, 11, 1))), some (.inl a1), [] => f_S_isSetOfCells N a1 h
    | _, _, _ => none)
  | false => none
set_option maxRecDepth 1000000 in
theorem E_S_isSetOfCells_0 (N : Nat) (n : Nat) (a1 : Int32) (h : MH) : seg (C_S_isSetOfCells N) 2 1 rI T_S_isSetOfCells [0] (fun q lv st h => match Nat.ble 1 q with
    | true => D_S_isSetOfCells N n q lv st h
    | false => none) 400 true 0 [(0, .inr (.inr (0, 11, 1))), (1, .inl a1)] [] h = f_S_isSetOfCells N a1 h := (rfl)
def T_S_ends : List (List (Option RW)) := [
  [some (.iload_n 1, 1, [1], 0, 0), some (.iload_n 2, 1, [2], 0, 0), some (.invokestatic 280, 3, [2, 154, 2, 0], 0, 0), none, none, some (.ifCond .eq 20, 3, [25], 0, 0), none, none, some (.aload_n 0, 1, [0], 0, 0), some (.iload_n 3, 1, [3], 0, 0), some (.invokevirtual 290, 3, [0, 158, 2, 0], 0, 0), none, none, some (.ifCond .eq 12, 3, [25], 0, 0), none, none, some (.iload 4, 2, [4], 0, 0), none, some (.iconst 2, 1, [], 2, 0), some (.invokestatic 186, 3, [2, 151, 2, 0], 0, 0), none, none, some (.ifCond .ne 9, 3, [31], 0, 0), none, none, some (.aload_n 0, 1, [0], 0, 0), some (.iconst 1, 1, [], 1, 0), some (.invokevirtual 128, 3, [0, 146, 2, 0], 0, 0), none, none, some (.ireturn, 1, [], 0, 0), some (.aload_n 0, 1, [0], 0, 0)],
  [some (.iload_n 1, 1, [1], 0, 0), some (.iload_n 2, 1, [2], 0, 0), some (.iload_n 3, 1, [3], 0, 0), some (.iconst 0, 1, [], 0, 0), some (.invokevirtual 283, 3, [0, 161, 5, 3], 0, 0), none, none, some (.aload_n 0, 1, [0], 0, 0), some (.getfield 53, 3, [11, 6, 2, 0, 10, 41], 0, 0), none, none, some (.getfield 287, 3, [10, 4, 0], 0, 0), none, none, some (.ifCond .ne 10, 3, [56], 0, 0), none, none, some (.aload_n 0, 1, [0], 0, 0), some (.bipush 6, 2, [], 6, 0), none, some (.invokevirtual 128, 3, [0, 146, 2, 0], 0, 0), none, none, some (.ireturn, 1, [], 0, 0), some (.aload_n 0, 1, [0], 0, 0), some (.iload 4, 2, [4], 0, 0), none, some (.ifCond .ne 13, 3, [72], 0, 0), none, none, some (.aload_n 0, 1, [0], 0, 0), some (.getfield 53, 3, [11, 6, 2, 0, 10, 41], 0, 0)],
  [none, none, some (.getfield 293, 3, [10, 6, 0], 0, 0), none, none, some (.goto 10, 3, [79], 0, 0), none, none, some (.aload_n 0, 1, [0], 0, 0), some (.getfield 53, 3, [11, 6, 2, 0, 10, 41], 0, 0), none, none, some (.getfield 296, 3, [10, 7, 0], 0, 0), none, none, some (.invokevirtual 183, 3, [0, 144, 2, 0], 0, 0), none, none, some (.ireturn, 1, [], 0, 0)]]
def f_S_ends (N : Nat) (a1 : Int32) (a2 : Int32) (a3 : Int32) (a4 : Int32) (h : MH) : Option (Int32 × MH) :=
  (f_S_areYears N a1 a2 h).bind (fun x1 =>
  if x1.1 = 0 then
  ((f_S_refuse N 1 x1.2).bind (fun x2 =>
  some (x2.1, x2.2)))
  else
  ((f_S_isSetOfCells N a3 x1.2).bind (fun x3 =>
  if x3.1 = 0 then
  ((f_S_refuse N 1 x3.2).bind (fun x4 =>
  some (x4.1, x4.2)))
  else
  ((f_S_isOneOf N a4 2 x3.2).bind (fun x5 =>
  if x5.1 = 0 then
  ((f_S_refuse N 1 x5.2).bind (fun x6 =>
  some (x6.1, x6.2)))
  else
  ((f_S_walkAll N a1 a2 a3 0 x5.2).bind (fun x7 =>
  if (gI x7 42 4) = 0 then
  ((f_S_refuse N 6 x7).bind (fun x8 =>
  some (x8.1, x8.2)))
  else
  (if a4 = 0 then
  ((f_S_answer N (gI x7 42 6) x7).bind (fun x9 =>
  some (x9.1, x9.2)))
  else
  ((f_S_answer N (gI x7 42 7) x7).bind (fun x10 =>
  some (x10.1, x10.2)))))))))))
def C_S_ends (N : Nat) : MC := (KDL, false, (fun _ => 0), jsB, (fun j => match Nat.beq j 144 with
    | true => w_S_answer (f_S_answer N)
    | false => match Nat.beq j 146 with
    | true => w_S_refuse (f_S_refuse N)
    | false => match Nat.beq j 151 with
    | true => w_S_isOneOf (f_S_isOneOf N)
    | false => match Nat.beq j 154 with
    | true => w_S_areYears (f_S_areYears N)
    | false => match Nat.beq j 158 with
    | true => w_S_isSetOfCells (f_S_isSetOfCells N)
    | false => fun _ _ => none), (fun _ _ _ => none), (fun _ _ _ => none), (fun j => match Nat.beq j 161 with
    | true => w_S_walkAll (f_S_walkAll N)
    | false => fun _ _ => none))
def D_S_ends (N : Nat) (n pc : Nat) (lv : ML) (st : List MV) (h : MH) : Option (Int32 × MH) :=
  match Nat.beq pc 0 with
  | true => (match lk lv 0, lk lv 1, lk lv 2, lk lv 3, lk lv 4, st with
    | some (.inr (.inr (0, 11, 1))), some (.inl a1), some (.inl a2), some (.inl a3), some (.inl a4), [] => f_S_ends N a1 a2 a3 a4 h
    | _, _, _, _, _, _ => none)
  | false => none
set_option maxRecDepth 1000000 in
theorem E_S_ends_0 (N : Nat) (n : Nat) (a1 : Int32) (a2 : Int32) (a3 : Int32) (a4 : Int32) (h : MH) : seg (C_S_ends N) 5 0 rI T_S_ends [0] (fun q lv st h => match Nat.ble 1 q with
    | true => D_S_ends N n q lv st h
    | false => none) 400 true 0 [(0, .inr (.inr (0, 11, 1))), (1, .inl a1), (2, .inl a2), (3, .inl a3), (4, .inl a4)] [] h = f_S_ends N a1 a2 a3 a4 h := (rfl)
def T_S_first : List (List (Option RW)) := [
  [some (.iload_n 1, 1, [1], 0, 0), some (.iload_n 2, 1, [2], 0, 0), some (.invokestatic 280, 3, [2, 154, 2, 0], 0, 0), none, none, some (.ifCond .eq 11, 3, [16], 0, 0), none, none, some (.aload_n 0, 1, [0], 0, 0), some (.iload_n 3, 1, [3], 0, 0), some (.invokevirtual 195, 3, [0, 156, 2, 0], 0, 0), none, none, some (.ifCond .ne 9, 3, [22], 0, 0), none, none, some (.aload_n 0, 1, [0], 0, 0), some (.iconst 1, 1, [], 1, 0), some (.invokevirtual 128, 3, [0, 146, 2, 0], 0, 0), none, none, some (.ireturn, 1, [], 0, 0), some (.aload_n 0, 1, [0], 0, 0), some (.getfield 46, 3, [11, 5, 2, 0, 0, 32], 0, 0), none, none, some (.aload_n 0, 1, [0], 0, 0), some (.getfield 81, 3, [11, 11, 3, 0, 2], 0, 0), none, none, some (.aload_n 0, 1, [0], 0, 0), some (.getfield 25, 3, [11, 2, 2, 0, 3, 15], 0, 0)],
  [none, none, some (.iload_n 1, 1, [1], 0, 0), some (.iload_n 2, 1, [2], 0, 0), some (.invokevirtual 299, 3, [1, 1, 5, 3], 0, 0), none, none, some (.aload_n 0, 1, [0], 0, 0), some (.getfield 53, 3, [11, 6, 2, 0, 10, 41], 0, 0), none, none, some (.aload_n 0, 1, [0], 0, 0), some (.getfield 46, 3, [11, 5, 2, 0, 0, 32], 0, 0), none, none, some (.aload_n 0, 1, [0], 0, 0), some (.getfield 46, 3, [11, 5, 2, 0, 0, 32], 0, 0), none, none, some (.getfield 303, 3, [0, 2, 0], 0, 0), none, none, some (.aload_n 0, 1, [0], 0, 0), some (.getfield 95, 3, [11, 15, 0], 0, 0), none, none, some (.invokevirtual 306, 3, [1, 93, 4, 0], 0, 0), none, none, some (.ifCond .ne 10, 3, [71], 0, 0), none, none],
  [some (.aload_n 0, 1, [0], 0, 0), some (.bipush 6, 2, [], 6, 0), none, some (.invokevirtual 128, 3, [0, 146, 2, 0], 0, 0), none, none, some (.ireturn, 1, [], 0, 0), some (.aload_n 0, 1, [0], 0, 0), some (.aload_n 0, 1, [0], 0, 0), some (.getfield 53, 3, [11, 6, 2, 0, 10, 41], 0, 0), none, none, some (.getfield 310, 3, [10, 8, 2, 1, 6, 1], 0, 0), none, none, some (.iload_n 3, 1, [3], 0, 0), some (.iaload, 1, [], 0, 0), some (.invokevirtual 183, 3, [0, 144, 2, 0], 0, 0), none, none, some (.ireturn, 1, [], 0, 0)]]
def f_S_first (N : Nat) (a1 : Int32) (a2 : Int32) (a3 : Int32) (h : MH) : Option (Int32 × MH) :=
  (f_S_areYears N a1 a2 h).bind (fun x1 =>
  if x1.1 = 0 then
  ((f_S_refuse N 1 x1.2).bind (fun x2 =>
  some (x2.1, x2.2)))
  else
  ((f_S_isCell N a3 x1.2).bind (fun x3 =>
  if x3.1 = 0 then
  ((f_S_refuse N 1 x3.2).bind (fun x4 =>
  some (x4.1, x4.2)))
  else
  ((f_Asked_prepare N (gR x3.2 1 11) a1 a2 x3.2).bind (fun x5 =>
  (f_Walk_finds N (gI x5 33 2) (gI x5 1 15) x5).bind (fun x6 =>
  if x6.1 = 0 then
  ((f_S_refuse N 6 x6.2).bind (fun x7 =>
  some (x7.1, x7.2)))
  else
  (if inB a3 6 = true then
  ((f_S_answer N (gI x6.2 43 (iN a3)) x6.2).bind (fun x8 =>
  some (x8.1, x8.2)))
  else none)))))))
def C_S_first (N : Nat) : MC := (KDL, false, (fun _ => 0), jsB, (fun j => match Nat.beq j 93 with
    | true => w_Walk_finds (f_Walk_finds N)
    | false => match Nat.beq j 144 with
    | true => w_S_answer (f_S_answer N)
    | false => match Nat.beq j 146 with
    | true => w_S_refuse (f_S_refuse N)
    | false => match Nat.beq j 154 with
    | true => w_S_areYears (f_S_areYears N)
    | false => match Nat.beq j 156 with
    | true => w_S_isCell (f_S_isCell N)
    | false => fun _ _ => none), (fun _ _ _ => none), (fun _ _ _ => none), (fun j => match Nat.beq j 1 with
    | true => w_Asked_prepare (f_Asked_prepare N)
    | false => fun _ _ => none))
def D_S_first (N : Nat) (n pc : Nat) (lv : ML) (st : List MV) (h : MH) : Option (Int32 × MH) :=
  match Nat.beq pc 0 with
  | true => (match lk lv 0, lk lv 1, lk lv 2, lk lv 3, st with
    | some (.inr (.inr (0, 11, 1))), some (.inl a1), some (.inl a2), some (.inl a3), [] => f_S_first N a1 a2 a3 h
    | _, _, _, _, _ => none)
  | false => none
set_option maxRecDepth 1000000 in
theorem E_S_first_0 (N : Nat) (n : Nat) (a1 : Int32) (a2 : Int32) (a3 : Int32) (h : MH) : seg (C_S_first N) 4 0 rI T_S_first [0] (fun q lv st h => match Nat.ble 1 q with
    | true => D_S_first N n q lv st h
    | false => none) 400 true 0 [(0, .inr (.inr (0, 11, 1))), (1, .inl a1), (2, .inl a2), (3, .inl a3)] [] h = f_S_first N a1 a2 a3 h := (rfl)
def T_S_corner : List (List (Option RW)) := [
  [some (.iload_n 1, 1, [1], 0, 0), some (.iload_n 2, 1, [2], 0, 0), some (.invokestatic 280, 3, [2, 154, 2, 0], 0, 0), none, none, some (.ifCond .ne 9, 3, [14], 0, 0), none, none, some (.aload_n 0, 1, [0], 0, 0), some (.iconst 1, 1, [], 1, 0), some (.invokevirtual 128, 3, [0, 146, 2, 0], 0, 0), none, none, some (.ireturn, 1, [], 0, 0), some (.aload_n 0, 1, [0], 0, 0), some (.getfield 81, 3, [11, 11, 3, 0, 2], 0, 0), none, none, some (.getfield 189, 3, [2, 0, 0], 0, 0), none, none, some (.ifCond .ne 10, 3, [31], 0, 0), none, none, some (.aload_n 0, 1, [0], 0, 0), some (.bipush 6, 2, [], 6, 0), none, some (.invokevirtual 128, 3, [0, 146, 2, 0], 0, 0), none, none, some (.ireturn, 1, [], 0, 0), some (.aload_n 0, 1, [0], 0, 0)],
  [some (.getfield 46, 3, [11, 5, 2, 0, 0, 32], 0, 0), none, none, some (.aload_n 0, 1, [0], 0, 0), some (.getfield 81, 3, [11, 11, 3, 0, 2], 0, 0), none, none, some (.aload_n 0, 1, [0], 0, 0), some (.getfield 25, 3, [11, 2, 2, 0, 3, 15], 0, 0), none, none, some (.iload_n 1, 1, [1], 0, 0), some (.iload_n 2, 1, [2], 0, 0), some (.invokevirtual 299, 3, [1, 1, 5, 3], 0, 0), none, none, some (.iconst 0, 1, [], 0, 0), some (.istore_n 3, 1, [3], 0, 0), some (.iload_n 3, 1, [3], 0, 0), some (.bipush 9, 2, [], 9, 0), none, some (.if_icmp .gt 37, 3, [90], 0, 0), none, none, some (.aload_n 0, 1, [0], 0, 0), some (.getfield 53, 3, [11, 6, 2, 0, 10, 41], 0, 0), none, none, some (.aload_n 0, 1, [0], 0, 0), some (.getfield 46, 3, [11, 5, 2, 0, 0, 32], 0, 0), none, none],
  [some (.aload_n 0, 1, [0], 0, 0), some (.getfield 46, 3, [11, 5, 2, 0, 0, 32], 0, 0), none, none, some (.getfield 303, 3, [0, 2, 0], 0, 0), none, none, some (.iload_n 3, 1, [3], 0, 0), some (.invokevirtual 306, 3, [1, 93, 4, 0], 0, 0), none, none, some (.ifCond .eq 9, 3, [84], 0, 0), none, none, some (.aload_n 0, 1, [0], 0, 0), some (.iload_n 3, 1, [3], 0, 0), some (.invokevirtual 183, 3, [0, 144, 2, 0], 0, 0), none, none, some (.ireturn, 1, [], 0, 0), some (.iinc 3 1, 3, [3], 1, 0), none, none, some (.goto (-37), 3, [50], 0, 0), none, none, some (.aload_n 0, 1, [0], 0, 0), some (.bipush 6, 2, [], 6, 0), none, some (.invokevirtual 128, 3, [0, 146, 2, 0], 0, 0), none, none],
  [some (.ireturn, 1, [], 0, 0)]]
def F_S_corner_50 (N : Nat) (bk : (Int32 → MH → Option (Int32 × MH))) (a3 : Int32) (h : MH) : Option (Int32 × MH) :=
  if 9 < a3 then
  ((f_S_refuse N 6 h).bind (fun x5 =>
  some (x5.1, x5.2)))
  else
  ((f_Walk_finds N (gI h 33 2) a3 h).bind (fun x6 =>
  if x6.1 = 0 then
  (let v7 : Int32 := a3 + 1
  bk v7 x6.2)
  else
  ((f_S_answer N a3 x6.2).bind (fun x8 =>
  some (x8.1, x8.2)))))
def F_S_corner_0 (N : Nat) (bk : (Int32 → MH → Option (Int32 × MH))) (a1 : Int32) (a2 : Int32) (h : MH) : Option (Int32 × MH) :=
  (f_S_areYears N a1 a2 h).bind (fun x1 =>
  if x1.1 = 0 then
  ((f_S_refuse N 1 x1.2).bind (fun x2 =>
  some (x2.1, x2.2)))
  else
  (if (gI x1.2 (gR x1.2 1 11) 0) = 0 then
  ((f_S_refuse N 6 x1.2).bind (fun x3 =>
  some (x3.1, x3.2)))
  else
  ((f_Asked_prepare N (gR x1.2 1 11) a1 a2 x1.2).bind (fun x4 =>
  F_S_corner_50 N bk 0 x4))))
def L_S_corner (N : Nat) : Nat → (Int32 → MH → Option (Int32 × MH))
  | 0 => fun _ _ => none
  | n + 1 => F_S_corner_50 N (L_S_corner N n)
def f_S_corner (N : Nat) (a1 : Int32) (a2 : Int32) (h : MH) : Option (Int32 × MH) := F_S_corner_0 N (L_S_corner N N) a1 a2 h
def C_S_corner (N : Nat) : MC := (KDL, false, (fun _ => 0), jsB, (fun j => match Nat.beq j 93 with
    | true => w_Walk_finds (f_Walk_finds N)
    | false => match Nat.beq j 144 with
    | true => w_S_answer (f_S_answer N)
    | false => match Nat.beq j 146 with
    | true => w_S_refuse (f_S_refuse N)
    | false => match Nat.beq j 154 with
    | true => w_S_areYears (f_S_areYears N)
    | false => fun _ _ => none), (fun _ _ _ => none), (fun _ _ _ => none), (fun j => match Nat.beq j 1 with
    | true => w_Asked_prepare (f_Asked_prepare N)
    | false => fun _ _ => none))
def D_S_corner (N : Nat) (n pc : Nat) (lv : ML) (st : List MV) (h : MH) : Option (Int32 × MH) :=
  match Nat.beq pc 0 with
  | true => (match lk lv 0, lk lv 1, lk lv 2, st with
    | some (.inr (.inr (0, 11, 1))), some (.inl a1), some (.inl a2), [] => F_S_corner_0 N (L_S_corner N n) a1 a2 h
    | _, _, _, _ => none)
  | false => match Nat.beq pc 50 with
  | true => (match lk lv 0, lk lv 3, st with
    | some (.inr (.inr (0, 11, 1))), some (.inl a3), [] => F_S_corner_50 N (L_S_corner N n) a3 h
    | _, _, _ => none)
  | false => none
def B_S_corner (N : Nat) (n pc : Nat) (lv : ML) (st : List MV) (h : MH) : Option (Int32 × MH) :=
  match Nat.beq pc 50 with
  | true => (match lk lv 0, lk lv 3, st with
    | some (.inr (.inr (0, 11, 1))), some (.inl a3), [] => ((L_S_corner N n)) a3 h
    | _, _, _ => none)
  | false => none
set_option maxRecDepth 1000000 in
theorem E_S_corner_0 (N : Nat) (n : Nat) (a1 : Int32) (a2 : Int32) (h : MH) : seg (C_S_corner N) 4 0 rI T_S_corner [0, 50] (fun q lv st h => match Nat.ble 1 q with
    | true => D_S_corner N n q lv st h
    | false => B_S_corner N n q lv st h) 400 true 0 [(0, .inr (.inr (0, 11, 1))), (1, .inl a1), (2, .inl a2)] [] h = F_S_corner_0 N (L_S_corner N n) a1 a2 h := (rfl)
set_option maxRecDepth 1000000 in
theorem E_S_corner_50 (N : Nat) (n : Nat) (a3 : Int32) (h : MH) : seg (C_S_corner N) 4 0 rI T_S_corner [0, 50] (fun q lv st h => match Nat.ble 51 q with
    | true => D_S_corner N n q lv st h
    | false => B_S_corner N n q lv st h) 400 true 50 [(0, .inr (.inr (0, 11, 1))), (3, .inl a3)] [] h = F_S_corner_50 N (L_S_corner N n) a3 h := (rfl)
def T_S_quarrel : List (List (Option RW)) := [
  [some (.iload_n 1, 1, [1], 0, 0), some (.iload_n 2, 1, [2], 0, 0), some (.invokestatic 280, 3, [2, 154, 2, 0], 0, 0), none, none, some (.ifCond .eq 11, 3, [16], 0, 0), none, none, some (.iload_n 3, 1, [3], 0, 0), some (.iconst 3, 1, [], 3, 0), some (.invokestatic 186, 3, [2, 151, 2, 0], 0, 0), none, none, some (.ifCond .ne 9, 3, [22], 0, 0), none, none, some (.aload_n 0, 1, [0], 0, 0), some (.iconst 1, 1, [], 1, 0), some (.invokevirtual 128, 3, [0, 146, 2, 0], 0, 0), none, none, some (.ireturn, 1, [], 0, 0), some (.aload_n 0, 1, [0], 0, 0), some (.getfield 81, 3, [11, 11, 3, 0, 2], 0, 0), none, none, some (.getfield 189, 3, [2, 0, 0], 0, 0), none, none, some (.ifCond .ne 10, 3, [39], 0, 0), none, none],
  [some (.aload_n 0, 1, [0], 0, 0), some (.bipush 6, 2, [], 6, 0), none, some (.invokevirtual 128, 3, [0, 146, 2, 0], 0, 0), none, none, some (.ireturn, 1, [], 0, 0), some (.aload_n 0, 1, [0], 0, 0), some (.getfield 46, 3, [11, 5, 2, 0, 0, 32], 0, 0), none, none, some (.aload_n 0, 1, [0], 0, 0), some (.getfield 81, 3, [11, 11, 3, 0, 2], 0, 0), none, none, some (.aload_n 0, 1, [0], 0, 0), some (.getfield 25, 3, [11, 2, 2, 0, 3, 15], 0, 0), none, none, some (.iload_n 1, 1, [1], 0, 0), some (.iload_n 2, 1, [2], 0, 0), some (.invokevirtual 299, 3, [1, 1, 5, 3], 0, 0), none, none, some (.aload_n 0, 1, [0], 0, 0), some (.getfield 53, 3, [11, 6, 2, 0, 10, 41], 0, 0), none, none, some (.aload_n 0, 1, [0], 0, 0), some (.getfield 46, 3, [11, 5, 2, 0, 0, 32], 0, 0), none, none],
  [some (.aload_n 0, 1, [0], 0, 0), some (.getfield 95, 3, [11, 15, 0], 0, 0), none, none, some (.invokevirtual 313, 3, [1, 104, 3, 3], 0, 0), none, none, some (.aload_n 0, 1, [0], 0, 0), some (.getfield 53, 3, [11, 6, 2, 0, 10, 41], 0, 0), none, none, some (.getfield 317, 3, [10, 15, 0], 0, 0), none, none, some (.ifCond .ne 10, 3, [88], 0, 0), none, none, some (.aload_n 0, 1, [0], 0, 0), some (.bipush 6, 2, [], 6, 0), none, some (.invokevirtual 128, 3, [0, 146, 2, 0], 0, 0), none, none, some (.ireturn, 1, [], 0, 0), some (.iload_n 3, 1, [3], 0, 0), some (.ifCond .ne 15, 3, [104], 0, 0), none, none, some (.aload_n 0, 1, [0], 0, 0), some (.aload_n 0, 1, [0], 0, 0), some (.getfield 53, 3, [11, 6, 2, 0, 10, 41], 0, 0), none],
  [none, some (.getfield 320, 3, [10, 13, 0], 0, 0), none, none, some (.invokevirtual 183, 3, [0, 144, 2, 0], 0, 0), none, none, some (.ireturn, 1, [], 0, 0), some (.aload_n 0, 1, [0], 0, 0), some (.iload_n 3, 1, [3], 0, 0), some (.iconst 1, 1, [], 1, 0), some (.if_icmp .ne 13, 3, [120], 0, 0), none, none, some (.aload_n 0, 1, [0], 0, 0), some (.getfield 53, 3, [11, 6, 2, 0, 10, 41], 0, 0), none, none, some (.getfield 323, 3, [10, 14, 0], 0, 0), none, none, some (.goto 10, 3, [127], 0, 0), none, none, some (.aload_n 0, 1, [0], 0, 0), some (.getfield 53, 3, [11, 6, 2, 0, 10, 41], 0, 0), none, none, some (.getfield 317, 3, [10, 15, 0], 0, 0), none, none, some (.invokevirtual 183, 3, [0, 144, 2, 0], 0, 0)],
  [none, none, some (.ireturn, 1, [], 0, 0)]]
def f_S_quarrel (N : Nat) (a1 : Int32) (a2 : Int32) (a3 : Int32) (h : MH) : Option (Int32 × MH) :=
  (f_S_areYears N a1 a2 h).bind (fun x1 =>
  if x1.1 = 0 then
  ((f_S_refuse N 1 x1.2).bind (fun x2 =>
  some (x2.1, x2.2)))
  else
  ((f_S_isOneOf N a3 3 x1.2).bind (fun x3 =>
  if x3.1 = 0 then
  ((f_S_refuse N 1 x3.2).bind (fun x4 =>
  some (x4.1, x4.2)))
  else
  (if (gI x3.2 (gR x3.2 1 11) 0) = 0 then
  ((f_S_refuse N 6 x3.2).bind (fun x5 =>
  some (x5.1, x5.2)))
  else
  ((f_Asked_prepare N (gR x3.2 1 11) a1 a2 x3.2).bind (fun x6 =>
  (f_Walk_findQuarrel N (gI x6 1 15) x6).bind (fun x7 =>
  if (gI x7 42 15) = 0 then
  ((f_S_refuse N 6 x7).bind (fun x8 =>
  some (x8.1, x8.2)))
  else
  (if a3 = 0 then
  ((f_S_answer N (gI x7 42 13) x7).bind (fun x9 =>
  some (x9.1, x9.2)))
  else
  (if a3 = 1 then
  ((f_S_answer N (gI x7 42 14) x7).bind (fun x10 =>
  some (x10.1, x10.2)))
  else
  ((f_S_answer N (gI x7 42 15) x7).bind (fun x11 =>
  some (x11.1, x11.2))))))))))))
def C_S_quarrel (N : Nat) : MC := (KDL, false, (fun _ => 0), jsB, (fun j => match Nat.beq j 144 with
    | true => w_S_answer (f_S_answer N)
    | false => match Nat.beq j 146 with
    | true => w_S_refuse (f_S_refuse N)
    | false => match Nat.beq j 151 with
    | true => w_S_isOneOf (f_S_isOneOf N)
    | false => match Nat.beq j 154 with
    | true => w_S_areYears (f_S_areYears N)
    | false => fun _ _ => none), (fun _ _ _ => none), (fun _ _ _ => none), (fun j => match Nat.beq j 1 with
    | true => w_Asked_prepare (f_Asked_prepare N)
    | false => match Nat.beq j 104 with
    | true => w_Walk_findQuarrel (f_Walk_findQuarrel N)
    | false => fun _ _ => none))
def D_S_quarrel (N : Nat) (n pc : Nat) (lv : ML) (st : List MV) (h : MH) : Option (Int32 × MH) :=
  match Nat.beq pc 0 with
  | true => (match lk lv 0, lk lv 1, lk lv 2, lk lv 3, st with
    | some (.inr (.inr (0, 11, 1))), some (.inl a1), some (.inl a2), some (.inl a3), [] => f_S_quarrel N a1 a2 a3 h
    | _, _, _, _, _ => none)
  | false => none
set_option maxRecDepth 1000000 in
theorem E_S_quarrel_0 (N : Nat) (n : Nat) (a1 : Int32) (a2 : Int32) (a3 : Int32) (h : MH) : seg (C_S_quarrel N) 4 0 rI T_S_quarrel [0] (fun q lv st h => match Nat.ble 1 q with
    | true => D_S_quarrel N n q lv st h
    | false => none) 400 true 0 [(0, .inr (.inr (0, 11, 1))), (1, .inl a1), (2, .inl a2), (3, .inl a3)] [] h = f_S_quarrel N a1 a2 a3 h := (rfl)
def T_S_without : List (List (Option RW)) := [
  [some (.iload_n 1, 1, [1], 0, 0), some (.iload_n 2, 1, [2], 0, 0), some (.invokestatic 280, 3, [2, 154, 2, 0], 0, 0), none, none, some (.ifCond .eq 11, 3, [16], 0, 0), none, none, some (.aload_n 0, 1, [0], 0, 0), some (.iload_n 3, 1, [3], 0, 0), some (.invokevirtual 198, 3, [0, 157, 2, 0], 0, 0), none, none, some (.ifCond .ne 9, 3, [22], 0, 0), none, none, some (.aload_n 0, 1, [0], 0, 0), some (.iconst 1, 1, [], 1, 0), some (.invokevirtual 128, 3, [0, 146, 2, 0], 0, 0), none, none, some (.ireturn, 1, [], 0, 0), some (.aload_n 0, 1, [0], 0, 0), some (.getfield 81, 3, [11, 11, 3, 0, 2], 0, 0), none, none, some (.getfield 189, 3, [2, 0, 0], 0, 0), none, none, some (.ifCond .ne 10, 3, [39], 0, 0), none, none],
  [some (.aload_n 0, 1, [0], 0, 0), some (.bipush 6, 2, [], 6, 0), none, some (.invokevirtual 128, 3, [0, 146, 2, 0], 0, 0), none, none, some (.ireturn, 1, [], 0, 0), some (.aload_n 0, 1, [0], 0, 0), some (.getfield 46, 3, [11, 5, 2, 0, 0, 32], 0, 0), none, none, some (.aload_n 0, 1, [0], 0, 0), some (.getfield 81, 3, [11, 11, 3, 0, 2], 0, 0), none, none, some (.aload_n 0, 1, [0], 0, 0), some (.getfield 25, 3, [11, 2, 2, 0, 3, 15], 0, 0), none, none, some (.iload_n 1, 1, [1], 0, 0), some (.iload_n 2, 1, [2], 0, 0), some (.invokevirtual 299, 3, [1, 1, 5, 3], 0, 0), none, none, some (.aload_n 0, 1, [0], 0, 0), some (.getfield 46, 3, [11, 5, 2, 0, 0, 32], 0, 0), none, none, some (.getfield 303, 3, [0, 2, 0], 0, 0), none, none, some (.iconst 1, 1, [], 1, 0)],
  [some (.iload_n 3, 1, [3], 0, 0), some (.ishl, 1, [], 0, 0), some (.iconst (-1), 1, [], (-1), 0), some (.ixor, 1, [], 0, 0), some (.iand, 1, [], 0, 0), some (.istore 4, 2, [4], 0, 0), none, some (.aload_n 0, 1, [0], 0, 0), some (.aload_n 0, 1, [0], 0, 0), some (.getfield 53, 3, [11, 6, 2, 0, 10, 41], 0, 0), none, none, some (.aload_n 0, 1, [0], 0, 0), some (.getfield 46, 3, [11, 5, 2, 0, 0, 32], 0, 0), none, none, some (.iload 4, 2, [4], 0, 0), none, some (.aload_n 0, 1, [0], 0, 0), some (.getfield 95, 3, [11, 15, 0], 0, 0), none, none, some (.invokevirtual 306, 3, [1, 93, 4, 0], 0, 0), none, none, some (.ifCond .eq 7, 3, [96], 0, 0), none, none, some (.iconst 1, 1, [], 1, 0), some (.goto 4, 3, [97], 0, 0), none, none],
  [some (.iconst 0, 1, [], 0, 0), some (.invokevirtual 183, 3, [0, 144, 2, 0], 0, 0), none, none, some (.ireturn, 1, [], 0, 0)]]
def f_S_without (N : Nat) (a1 : Int32) (a2 : Int32) (a3 : Int32) (h : MH) : Option (Int32 × MH) :=
  (f_S_areYears N a1 a2 h).bind (fun x1 =>
  if x1.1 = 0 then
  ((f_S_refuse N 1 x1.2).bind (fun x2 =>
  some (x2.1, x2.2)))
  else
  ((f_S_isMark N a3 x1.2).bind (fun x3 =>
  if x3.1 = 0 then
  ((f_S_refuse N 1 x3.2).bind (fun x4 =>
  some (x4.1, x4.2)))
  else
  (if (gI x3.2 (gR x3.2 1 11) 0) = 0 then
  ((f_S_refuse N 6 x3.2).bind (fun x5 =>
  some (x5.1, x5.2)))
  else
  ((f_Asked_prepare N (gR x3.2 1 11) a1 a2 x3.2).bind (fun x6 =>
  let v7 : Int32 := (gI x6 33 2) &&& (((1 : Int32) <<< (a3 &&& 31)) ^^^ ((-1)))
  (f_Walk_finds N v7 (gI x6 1 15) x6).bind (fun x8 =>
  if x8.1 = 0 then
  ((f_S_answer N 0 x8.2).bind (fun x9 =>
  some (x9.1, x9.2)))
  else
  ((f_S_answer N 1 x8.2).bind (fun x10 =>
  some (x10.1, x10.2))))))))))
def C_S_without (N : Nat) : MC := (KDL, false, (fun _ => 0), jsB, (fun j => match Nat.beq j 93 with
    | true => w_Walk_finds (f_Walk_finds N)
    | false => match Nat.beq j 144 with
    | true => w_S_answer (f_S_answer N)
    | false => match Nat.beq j 146 with
    | true => w_S_refuse (f_S_refuse N)
    | false => match Nat.beq j 154 with
    | true => w_S_areYears (f_S_areYears N)
    | false => match Nat.beq j 157 with
    | true => w_S_isMark (f_S_isMark N)
    | false => fun _ _ => none), (fun _ _ _ => none), (fun _ _ _ => none), (fun j => match Nat.beq j 1 with
    | true => w_Asked_prepare (f_Asked_prepare N)
    | false => fun _ _ => none))
def D_S_without (N : Nat) (n pc : Nat) (lv : ML) (st : List MV) (h : MH) : Option (Int32 × MH) :=
  match Nat.beq pc 0 with
  | true => (match lk lv 0, lk lv 1, lk lv 2, lk lv 3, st with
    | some (.inr (.inr (0, 11, 1))), some (.inl a1), some (.inl a2), some (.inl a3), [] => f_S_without N a1 a2 a3 h
    | _, _, _, _, _ => none)
  | false => none
set_option maxRecDepth 1000000 in
theorem E_S_without_0 (N : Nat) (n : Nat) (a1 : Int32) (a2 : Int32) (a3 : Int32) (h : MH) : seg (C_S_without N) 5 0 rI T_S_without [0] (fun q lv st h => match Nat.ble 1 q with
    | true => D_S_without N n q lv st h
    | false => none) 400 true 0 [(0, .inr (.inr (0, 11, 1))), (1, .inl a1), (2, .inl a2), (3, .inl a3)] [] h = f_S_without N a1 a2 a3 h := (rfl)
def T_S_isSetOfMarks : List (List (Option RW)) := [
  [some (.iload_n 1, 1, [1], 0, 0), some (.iconst 1, 1, [], 1, 0), some (.aload_n 0, 1, [0], 0, 0), some (.getfield 81, 3, [11, 11, 3, 0, 2], 0, 0), none, none, some (.getfield 192, 3, [2, 1, 0], 0, 0), none, none, some (.ishl, 1, [], 0, 0), some (.invokestatic 186, 3, [2, 151, 2, 0], 0, 0), none, none, some (.ireturn, 1, [], 0, 0)]]
def f_S_isSetOfMarks (N : Nat) (a1 : Int32) (h : MH) : Option (Int32 × MH) :=
  (f_S_isOneOf N a1 ((1 : Int32) <<< ((gI h (gR h 1 11) 1) &&& 31)) h).bind (fun x1 =>
  match narOK 1 x1.1 with
  | true => some (x1.1, x1.2)
  | false => none)
def C_S_isSetOfMarks (N : Nat) : MC := (KDL, false, (fun _ => 0), jsB, (fun j => match Nat.beq j 151 with
    | true => w_S_isOneOf (f_S_isOneOf N)
    | false => fun _ _ => none), (fun _ _ _ => none), (fun _ _ _ => none), (fun _ _ _ => none))
def D_S_isSetOfMarks (N : Nat) (n pc : Nat) (lv : ML) (st : List MV) (h : MH) : Option (Int32 × MH) :=
  match Nat.beq pc 0 with
  | true => (match lk lv 0, lk lv 1, st with
    | some (.inr (.inr (0, 11, 1))), some (.inl a1), [] => f_S_isSetOfMarks N a1 h
    | _, _, _ => none)
  | false => none
set_option maxRecDepth 1000000 in
theorem E_S_isSetOfMarks_0 (N : Nat) (n : Nat) (a1 : Int32) (h : MH) : seg (C_S_isSetOfMarks N) 2 1 rI T_S_isSetOfMarks [0] (fun q lv st h => match Nat.ble 1 q with
    | true => D_S_isSetOfMarks N n q lv st h
    | false => none) 400 true 0 [(0, .inr (.inr (0, 11, 1))), (1, .inl a1)] [] h = f_S_isSetOfMarks N a1 h := (rfl)
def T_S_rank : List (List (Option RW)) := [
  [some (.aload_n 0, 1, [0], 0, 0), some (.iload_n 1, 1, [1], 0, 0), some (.invokevirtual 326, 3, [0, 159, 2, 0], 0, 0), none, none, some (.ifCond .eq 11, 3, [16], 0, 0), none, none, some (.iload_n 2, 1, [2], 0, 0), some (.iconst 2, 1, [], 2, 0), some (.invokestatic 186, 3, [2, 151, 2, 0], 0, 0), none, none, some (.ifCond .ne 9, 3, [22], 0, 0), none, none, some (.aload_n 0, 1, [0], 0, 0), some (.iconst 1, 1, [], 1, 0), some (.invokevirtual 128, 3, [0, 146, 2, 0], 0, 0), none, none, some (.ireturn, 1, [], 0, 0), some (.aload_n 0, 1, [0], 0, 0), some (.getfield 60, 3, [11, 7, 2, 0, 6, 47], 0, 0), none, none, some (.aload_n 0, 1, [0], 0, 0), some (.getfield 81, 3, [11, 11, 3, 0, 2], 0, 0), none, none, some (.iload_n 1, 1, [1], 0, 0), some (.iconst (-1), 1, [], (-1), 0)],
  [some (.invokevirtual 329, 3, [1, 46, 4, 0], 0, 0), none, none, some (.istore_n 3, 1, [3], 0, 0), some (.aload_n 0, 1, [0], 0, 0), some (.iload_n 2, 1, [2], 0, 0), some (.ifCond .ne 7, 3, [45], 0, 0), none, none, some (.iload_n 3, 1, [3], 0, 0), some (.goto 12, 3, [54], 0, 0), none, none, some (.aload_n 0, 1, [0], 0, 0), some (.getfield 81, 3, [11, 11, 3, 0, 2], 0, 0), none, none, some (.getfield 189, 3, [2, 0, 0], 0, 0), none, none, some (.iload_n 3, 1, [3], 0, 0), some (.isub, 1, [], 0, 0), some (.invokevirtual 183, 3, [0, 144, 2, 0], 0, 0), none, none, some (.ireturn, 1, [], 0, 0)]]
def f_S_rank (N : Nat) (a1 : Int32) (a2 : Int32) (h : MH) : Option (Int32 × MH) :=
  (f_S_isSetOfMarks N a1 h).bind (fun x1 =>
  if x1.1 = 0 then
  ((f_S_refuse N 1 x1.2).bind (fun x2 =>
  some (x2.1, x2.2)))
  else
  ((f_S_isOneOf N a2 2 x1.2).bind (fun x3 =>
  if x3.1 = 0 then
  ((f_S_refuse N 1 x3.2).bind (fun x4 =>
  some (x4.1, x4.2)))
  else
  ((f_Ranks_of N (gR x3.2 1 11) a1 ((-1)) x3.2).bind (fun x5 =>
  if a2 = 0 then
  ((f_S_answer N x5.1 x5.2).bind (fun x6 =>
  some (x6.1, x6.2)))
  else
  ((f_S_answer N ((gI x5.2 (gR x5.2 1 11) 0) - x5.1) x5.2).bind (fun x7 =>
  some (x7.1, x7.2))))))))
def C_S_rank (N : Nat) : MC := (KDL, false, (fun _ => 0), jsB, (fun j => match Nat.beq j 46 with
    | true => w_Ranks_of (f_Ranks_of N)
    | false => match Nat.beq j 144 with
    | true => w_S_answer (f_S_answer N)
    | false => match Nat.beq j 146 with
    | true => w_S_refuse (f_S_refuse N)
    | false => match Nat.beq j 151 with
    | true => w_S_isOneOf (f_S_isOneOf N)
    | false => match Nat.beq j 159 with
    | true => w_S_isSetOfMarks (f_S_isSetOfMarks N)
    | false => fun _ _ => none), (fun _ _ _ => none), (fun _ _ _ => none), (fun _ _ _ => none))
def D_S_rank (N : Nat) (n pc : Nat) (lv : ML) (st : List MV) (h : MH) : Option (Int32 × MH) :=
  match Nat.beq pc 0 with
  | true => (match lk lv 0, lk lv 1, lk lv 2, st with
    | some (.inr (.inr (0, 11, 1))), some (.inl a1), some (.inl a2), [] => f_S_rank N a1 a2 h
    | _, _, _, _ => none)
  | false => none
set_option maxRecDepth 1000000 in
theorem E_S_rank_0 (N : Nat) (n : Nat) (a1 : Int32) (a2 : Int32) (h : MH) : seg (C_S_rank N) 4 0 rI T_S_rank [0] (fun q lv st h => match Nat.ble 1 q with
    | true => D_S_rank N n q lv st h
    | false => none) 400 true 0 [(0, .inr (.inr (0, 11, 1))), (1, .inl a1), (2, .inl a2)] [] h = f_S_rank N a1 a2 h := (rfl)
def T_S_apart : List (List (Option RW)) := [
  [some (.aload_n 0, 1, [0], 0, 0), some (.iload_n 1, 1, [1], 0, 0), some (.invokevirtual 195, 3, [0, 156, 2, 0], 0, 0), none, none, some (.ifCond .eq 11, 3, [16], 0, 0), none, none, some (.aload_n 0, 1, [0], 0, 0), some (.iload_n 2, 1, [2], 0, 0), some (.invokevirtual 326, 3, [0, 159, 2, 0], 0, 0), none, none, some (.ifCond .ne 9, 3, [22], 0, 0), none, none, some (.aload_n 0, 1, [0], 0, 0), some (.iconst 1, 1, [], 1, 0), some (.invokevirtual 128, 3, [0, 146, 2, 0], 0, 0), none, none, some (.ireturn, 1, [], 0, 0), some (.aload_n 0, 1, [0], 0, 0), some (.getfield 60, 3, [11, 7, 2, 0, 6, 47], 0, 0), none, none, some (.aload_n 0, 1, [0], 0, 0), some (.getfield 81, 3, [11, 11, 3, 0, 2], 0, 0), none, none, some (.iload_n 2, 1, [2], 0, 0), some (.iconst (-1), 1, [], (-1), 0)],
  [some (.invokevirtual 329, 3, [1, 46, 4, 0], 0, 0), none, none, some (.istore_n 3, 1, [3], 0, 0), some (.aload_n 0, 1, [0], 0, 0), some (.aload_n 0, 1, [0], 0, 0), some (.getfield 60, 3, [11, 7, 2, 0, 6, 47], 0, 0), none, none, some (.aload_n 0, 1, [0], 0, 0), some (.getfield 81, 3, [11, 11, 3, 0, 2], 0, 0), none, none, some (.iload_n 2, 1, [2], 0, 0), some (.iload_n 1, 1, [1], 0, 0), some (.invokevirtual 329, 3, [1, 46, 4, 0], 0, 0), none, none, some (.iload_n 3, 1, [3], 0, 0), some (.iconst 1, 1, [], 1, 0), some (.isub, 1, [], 0, 0), some (.if_icmp .ne 7, 3, [60], 0, 0), none, none, some (.iconst 1, 1, [], 1, 0), some (.goto 4, 3, [61], 0, 0), none, none, some (.iconst 0, 1, [], 0, 0), some (.invokevirtual 183, 3, [0, 144, 2, 0], 0, 0), none, none],
  [some (.ireturn, 1, [], 0, 0)]]
def f_S_apart (N : Nat) (a1 : Int32) (a2 : Int32) (h : MH) : Option (Int32 × MH) :=
  (f_S_isCell N a1 h).bind (fun x1 =>
  if x1.1 = 0 then
  ((f_S_refuse N 1 x1.2).bind (fun x2 =>
  some (x2.1, x2.2)))
  else
  ((f_S_isSetOfMarks N a2 x1.2).bind (fun x3 =>
  if x3.1 = 0 then
  ((f_S_refuse N 1 x3.2).bind (fun x4 =>
  some (x4.1, x4.2)))
  else
  ((f_Ranks_of N (gR x3.2 1 11) a2 ((-1)) x3.2).bind (fun x5 =>
  (f_Ranks_of N (gR x5.2 1 11) a2 a1 x5.2).bind (fun x6 =>
  if x6.1 = (x5.1 - 1) then
  ((f_S_answer N 1 x6.2).bind (fun x7 =>
  some (x7.1, x7.2)))
  else
  ((f_S_answer N 0 x6.2).bind (fun x8 =>
  some (x8.1, x8.2)))))))))
def C_S_apart (N : Nat) : MC := (KDL, false, (fun _ => 0), jsB, (fun j => match Nat.beq j 46 with
    | true => w_Ranks_of (f_Ranks_of N)
    | false => match Nat.beq j 144 with
    | true => w_S_answer (f_S_answer N)
    | false => match Nat.beq j 146 with
    | true => w_S_refuse (f_S_refuse N)
    | false => match Nat.beq j 156 with
    | true => w_S_isCell (f_S_isCell N)
    | false => match Nat.beq j 159 with
    | true => w_S_isSetOfMarks (f_S_isSetOfMarks N)
    | false => fun _ _ => none), (fun _ _ _ => none), (fun _ _ _ => none), (fun _ _ _ => none))
def D_S_apart (N : Nat) (n pc : Nat) (lv : ML) (st : List MV) (h : MH) : Option (Int32 × MH) :=
  match Nat.beq pc 0 with
  | true => (match lk lv 0, lk lv 1, lk lv 2, st with
    | some (.inr (.inr (0, 11, 1))), some (.inl a1), some (.inl a2), [] => f_S_apart N a1 a2 h
    | _, _, _, _ => none)
  | false => none
set_option maxRecDepth 1000000 in
theorem E_S_apart_0 (N : Nat) (n : Nat) (a1 : Int32) (a2 : Int32) (h : MH) : seg (C_S_apart N) 4 0 rI T_S_apart [0] (fun q lv st h => match Nat.ble 1 q with
    | true => D_S_apart N n q lv st h
    | false => none) 400 true 0 [(0, .inr (.inr (0, 11, 1))), (1, .inl a1), (2, .inl a2)] [] h = f_S_apart N a1 a2 h := (rfl)
def T_S_odds : List (List (Option RW)) := [
  [some (.iload_n 1, 1, [1], 0, 0), some (.iload_n 2, 1, [2], 0, 0), some (.invokestatic 280, 3, [2, 154, 2, 0], 0, 0), none, none, some (.ifCond .eq 22, 3, [27], 0, 0), none, none, some (.aload_n 0, 1, [0], 0, 0), some (.iload_n 3, 1, [3], 0, 0), some (.invokevirtual 290, 3, [0, 158, 2, 0], 0, 0), none, none, some (.ifCond .eq 14, 3, [27], 0, 0), none, none, some (.iload 4, 2, [4], 0, 0), none, some (.iconst 0, 1, [], 0, 0), some (.bipush 54, 2, [], 54, 0), none, some (.invokestatic 207, 3, [2, 150, 3, 0], 0, 0), none, none, some (.ifCond .ne 9, 3, [33], 0, 0), none, none, some (.aload_n 0, 1, [0], 0, 0), some (.iconst 1, 1, [], 1, 0), some (.invokevirtual 128, 3, [0, 146, 2, 0], 0, 0), none, none],
  [some (.ireturn, 1, [], 0, 0), some (.aload_n 0, 1, [0], 0, 0), some (.iload_n 1, 1, [1], 0, 0), some (.iload_n 2, 1, [2], 0, 0), some (.iload_n 3, 1, [3], 0, 0), some (.iload 4, 2, [4], 0, 0), none, some (.invokevirtual 283, 3, [0, 161, 5, 3], 0, 0), none, none, some (.aload_n 0, 1, [0], 0, 0), some (.getfield 53, 3, [11, 6, 2, 0, 10, 41], 0, 0), none, none, some (.getfield 287, 3, [10, 4, 0], 0, 0), none, none, some (.ifCond .ne 10, 3, [59], 0, 0), none, none, some (.aload_n 0, 1, [0], 0, 0), some (.bipush 6, 2, [], 6, 0), none, some (.invokevirtual 128, 3, [0, 146, 2, 0], 0, 0), none, none, some (.ireturn, 1, [], 0, 0), some (.aload_n 0, 1, [0], 0, 0), some (.aload_n 0, 1, [0], 0, 0), some (.getfield 53, 3, [11, 6, 2, 0, 10, 41], 0, 0), none, none],
  [some (.getfield 333, 3, [10, 5, 0], 0, 0), none, none, some (.i2l, 1, [], 0, 0), some (.aload_n 0, 1, [0], 0, 0), some (.getfield 53, 3, [11, 6, 2, 0, 10, 41], 0, 0), none, none, some (.getfield 287, 3, [10, 4, 0], 0, 0), none, none, some (.i2l, 1, [], 0, 0), some (.invokevirtual 262, 3, [0, 148, 3, 0], 0, 0), none, none, some (.ireturn, 1, [], 0, 0)]]
def f_S_odds (N : Nat) (a1 : Int32) (a2 : Int32) (a3 : Int32) (a4 : Int32) (h : MH) : Option (Int32 × MH) :=
  (f_S_areYears N a1 a2 h).bind (fun x1 =>
  if x1.1 = 0 then
  ((f_S_refuse N 1 x1.2).bind (fun x2 =>
  some (x2.1, x2.2)))
  else
  ((f_S_isSetOfCells N a3 x1.2).bind (fun x3 =>
  if x3.1 = 0 then
  ((f_S_refuse N 1 x3.2).bind (fun x4 =>
  some (x4.1, x4.2)))
  else
  ((f_S_isWithin N a4 0 54 x3.2).bind (fun x5 =>
  if x5.1 = 0 then
  ((f_S_refuse N 1 x5.2).bind (fun x6 =>
  some (x6.1, x6.2)))
  else
  ((f_S_walkAll N a1 a2 a3 a4 x5.2).bind (fun x7 =>
  if (gI x7 42 4) = 0 then
  ((f_S_refuse N 6 x7).bind (fun x8 =>
  some (x8.1, x8.2)))
  else
  ((f_S_tell N (((gI x7 42 5)).toInt64) (((gI x7 42 4)).toInt64) x7).bind (fun x9 =>
  some (x9.1, x9.2))))))))))
def C_S_odds (N : Nat) : MC := (KDL, false, (fun _ => 0), jsB, (fun j => match Nat.beq j 146 with
    | true => w_S_refuse (f_S_refuse N)
    | false => match Nat.beq j 148 with
    | true => w_S_tell (f_S_tell N)
    | false => match Nat.beq j 150 with
    | true => w_S_isWithin (f_S_isWithin N)
    | false => match Nat.beq j 154 with
    | true => w_S_areYears (f_S_areYears N)
    | false => match Nat.beq j 158 with
    | true => w_S_isSetOfCells (f_S_isSetOfCells N)
    | false => fun _ _ => none), (fun _ _ _ => none), (fun _ _ _ => none), (fun j => match Nat.beq j 161 with
    | true => w_S_walkAll (f_S_walkAll N)
    | false => fun _ _ => none))
def D_S_odds (N : Nat) (n pc : Nat) (lv : ML) (st : List MV) (h : MH) : Option (Int32 × MH) :=
  match Nat.beq pc 0 with
  | true => (match lk lv 0, lk lv 1, lk lv 2, lk lv 3, lk lv 4, st with
    | some (.inr (.inr (0, 11, 1))), some (.inl a1), some (.inl a2), some (.inl a3), some (.inl a4), [] => f_S_odds N a1 a2 a3 a4 h
    | _, _, _, _, _, _ => none)
  | false => none
set_option maxRecDepth 1000000 in
theorem E_S_odds_0 (N : Nat) (n : Nat) (a1 : Int32) (a2 : Int32) (a3 : Int32) (a4 : Int32) (h : MH) : seg (C_S_odds N) 5 0 rI T_S_odds [0] (fun q lv st h => match Nat.ble 1 q with
    | true => D_S_odds N n q lv st h
    | false => none) 400 true 0 [(0, .inr (.inr (0, 11, 1))), (1, .inl a1), (2, .inl a2), (3, .inl a3), (4, .inl a4)] [] h = f_S_odds N a1 a2 a3 a4 h := (rfl)
def T_S_shake : List (List (Option RW)) := [
  [some (.iload_n 1, 1, [1], 0, 0), some (.invokestatic 204, 3, [2, 153, 1, 0], 0, 0), none, none, some (.ifCond .eq 21, 3, [25], 0, 0), none, none, some (.aload_n 0, 1, [0], 0, 0), some (.iload_n 2, 1, [2], 0, 0), some (.invokevirtual 195, 3, [0, 156, 2, 0], 0, 0), none, none, some (.ifCond .eq 13, 3, [25], 0, 0), none, none, some (.iload_n 3, 1, [3], 0, 0), some (.iconst 0, 1, [], 0, 0), some (.bipush 99, 2, [], 99, 0), none, some (.invokestatic 207, 3, [2, 150, 3, 0], 0, 0), none, none, some (.ifCond .ne 9, 3, [31], 0, 0), none, none, some (.aload_n 0, 1, [0], 0, 0), some (.iconst 1, 1, [], 1, 0), some (.invokevirtual 109, 3, [0, 147, 2, 0], 0, 0), none, none, some (.ireturn, 1, [], 0, 0), some (.aload_n 0, 1, [0], 0, 0)],
  [some (.getfield 39, 3, [11, 4, 2, 0, 8, 28], 0, 0), none, none, some (.getfield 336, 3, [8, 3, 0], 0, 0), none, none, some (.bipush 30, 2, [], 30, 0), none, some (.if_icmp .lt 9, 3, [49], 0, 0), none, none, some (.aload_n 0, 1, [0], 0, 0), some (.iconst 4, 1, [], 4, 0), some (.invokevirtual 109, 3, [0, 147, 2, 0], 0, 0), none, none, some (.ireturn, 1, [], 0, 0), some (.aload_n 0, 1, [0], 0, 0), some (.getfield 39, 3, [11, 4, 2, 0, 8, 28], 0, 0), none, none, some (.iload_n 1, 1, [1], 0, 0), some (.iload_n 2, 1, [2], 0, 0), some (.iload_n 3, 1, [3], 0, 0), some (.invokevirtual 337, 3, [1, 81, 4, 3], 0, 0), none, none, some (.aload_n 0, 1, [0], 0, 0), some (.invokevirtual 116, 3, [0, 145, 1, 0], 0, 0), none, none, some (.ireturn, 1, [], 0, 0)]]
def f_S_shake (N : Nat) (a1 : Int32) (a2 : Int32) (a3 : Int32) (h : MH) : Option (Int32 × MH) :=
  (f_S_isYear N a1 h).bind (fun x1 =>
  if x1.1 = 0 then
  ((f_S_deny N 1 x1.2).bind (fun x2 =>
  match narOK 1 x2.1 with
  | true => some (x2.1, x2.2)
  | false => none))
  else
  ((f_S_isCell N a2 x1.2).bind (fun x3 =>
  if x3.1 = 0 then
  ((f_S_deny N 1 x3.2).bind (fun x4 =>
  match narOK 1 x4.1 with
  | true => some (x4.1, x4.2)
  | false => none))
  else
  ((f_S_isWithin N a3 0 99 x3.2).bind (fun x5 =>
  if x5.1 = 0 then
  ((f_S_deny N 1 x5.2).bind (fun x6 =>
  match narOK 1 x6.1 with
  | true => some (x6.1, x6.2)
  | false => none))
  else
  (if (gI x5.2 29 3) < 30 then
  ((f_Shakes_add N a1 a2 a3 x5.2).bind (fun x7 =>
  (f_S_allow N x7).bind (fun x8 =>
  match narOK 1 x8.1 with
  | true => some (x8.1, x8.2)
  | false => none)))
  else
  ((f_S_deny N 4 x5.2).bind (fun x9 =>
  match narOK 1 x9.1 with
  | true => some (x9.1, x9.2)
  | false => none))))))))
def C_S_shake (N : Nat) : MC := (KDL, false, (fun _ => 0), jsB, (fun j => match Nat.beq j 145 with
    | true => w_S_allow (f_S_allow N)
    | false => match Nat.beq j 147 with
    | true => w_S_deny (f_S_deny N)
    | false => match Nat.beq j 150 with
    | true => w_S_isWithin (f_S_isWithin N)
    | false => match Nat.beq j 153 with
    | true => w_S_isYear (f_S_isYear N)
    | false => match Nat.beq j 156 with
    | true => w_S_isCell (f_S_isCell N)
    | false => fun _ _ => none), (fun _ _ _ => none), (fun _ _ _ => none), (fun j => match Nat.beq j 81 with
    | true => w_Shakes_add (f_Shakes_add N)
    | false => fun _ _ => none))
def D_S_shake (N : Nat) (n pc : Nat) (lv : ML) (st : List MV) (h : MH) : Option (Int32 × MH) :=
  match Nat.beq pc 0 with
  | true => (match lk lv 0, lk lv 1, lk lv 2, lk lv 3, st with
    | some (.inr (.inr (0, 11, 1))), some (.inl a1), some (.inl a2), some (.inl a3), [] => f_S_shake N a1 a2 a3 h
    | _, _, _, _, _ => none)
  | false => none
set_option maxRecDepth 1000000 in
theorem E_S_shake_0 (N : Nat) (n : Nat) (a1 : Int32) (a2 : Int32) (a3 : Int32) (h : MH) : seg (C_S_shake N) 4 1 rI T_S_shake [0] (fun q lv st h => match Nat.ble 1 q with
    | true => D_S_shake N n q lv st h
    | false => none) 400 true 0 [(0, .inr (.inr (0, 11, 1))), (1, .inl a1), (2, .inl a2), (3, .inl a3)] [] h = f_S_shake N a1 a2 a3 h := (rfl)
def T_S_saved : List (List (Option RW)) := [
  [some (.aload_n 0, 1, [0], 0, 0), some (.iload_n 1, 1, [1], 0, 0), some (.invokevirtual 195, 3, [0, 156, 2, 0], 0, 0), none, none, some (.ifCond .eq 18, 3, [23], 0, 0), none, none, some (.iload_n 2, 1, [2], 0, 0), some (.invokestatic 204, 3, [2, 153, 1, 0], 0, 0), none, none, some (.ifCond .eq 11, 3, [23], 0, 0), none, none, some (.iload_n 3, 1, [3], 0, 0), some (.iconst 2, 1, [], 2, 0), some (.invokestatic 186, 3, [2, 151, 2, 0], 0, 0), none, none, some (.ifCond .ne 9, 3, [29], 0, 0), none, none, some (.aload_n 0, 1, [0], 0, 0), some (.iconst 1, 1, [], 1, 0), some (.invokevirtual 128, 3, [0, 146, 2, 0], 0, 0), none, none, some (.ireturn, 1, [], 0, 0), some (.iload_n 3, 1, [3], 0, 0), some (.ifCond .ne 15, 3, [45], 0, 0), none],
  [none, some (.aload_n 0, 1, [0], 0, 0), some (.getfield 81, 3, [11, 11, 3, 0, 2], 0, 0), none, none, some (.getfield 340, 3, [2, 5, 2, 1, 6, 4], 0, 0), none, none, some (.iload_n 1, 1, [1], 0, 0), some (.iaload, 1, [], 0, 0), some (.goto 12, 3, [54], 0, 0), none, none, some (.aload_n 0, 1, [0], 0, 0), some (.getfield 81, 3, [11, 11, 3, 0, 2], 0, 0), none, none, some (.getfield 343, 3, [2, 6, 2, 1, 6, 5], 0, 0), none, none, some (.iload_n 1, 1, [1], 0, 0), some (.iaload, 1, [], 0, 0), some (.istore 4, 2, [4], 0, 0), none, some (.aload_n 0, 1, [0], 0, 0), some (.getfield 81, 3, [11, 11, 3, 0, 2], 0, 0), none, none, some (.getfield 346, 3, [2, 4, 2, 1, 6, 3], 0, 0), none, none, some (.iload_n 1, 1, [1], 0, 0)],
  [some (.iaload, 1, [], 0, 0), some (.i2l, 1, [], 0, 0), some (.iload 4, 2, [4], 0, 0), none, some (.i2l, 1, [], 0, 0), some (.lmul, 1, [], 0, 0), some (.lstore 5, 2, [5], 0, 0), none, some (.aload_n 0, 1, [0], 0, 0), some (.aload_n 0, 1, [0], 0, 0), some (.getfield 39, 3, [11, 4, 2, 0, 8, 28], 0, 0), none, none, some (.iload_n 1, 1, [1], 0, 0), some (.iload_n 2, 1, [2], 0, 0), some (.lload 5, 2, [5], 0, 0), none, some (.invokevirtual 349, 3, [1, 82, 4, 1], 0, 0), none, none, some (.ldc2_w 353, 3, [], 0, 10000), none, none, some (.invokevirtual 262, 3, [0, 148, 3, 0], 0, 0), none, none, some (.ireturn, 1, [], 0, 0)]]
def F_S_saved_54 (N : Nat) (a1 : Int32) (a2 : Int32) (as0 : Int32) (h : MH) : Option (Int32 × MH) :=
  if inB a1 6 = true then
  (let v7 : Int64 := (((gI h ((gR h 1 11) + 3) (iN a1))).toInt64) * as0.toInt64
  (f_Shakes_left N a1 a2 v7 h).bind (fun x8 =>
  (f_S_tell N x8.1 10000 x8.2).bind (fun x9 =>
  some (x9.1, x9.2))))
  else none
def f_S_saved (N : Nat) (a1 : Int32) (a2 : Int32) (a3 : Int32) (h : MH) : Option (Int32 × MH) :=
  (f_S_isCell N a1 h).bind (fun x1 =>
  if x1.1 = 0 then
  ((f_S_refuse N 1 x1.2).bind (fun x2 =>
  some (x2.1, x2.2)))
  else
  ((f_S_isYear N a2 x1.2).bind (fun x3 =>
  if x3.1 = 0 then
  ((f_S_refuse N 1 x3.2).bind (fun x4 =>
  some (x4.1, x4.2)))
  else
  ((f_S_isOneOf N a3 2 x3.2).bind (fun x5 =>
  if x5.1 = 0 then
  ((f_S_refuse N 1 x5.2).bind (fun x6 =>
  some (x6.1, x6.2)))
  else
  (if a3 = 0 then
  (if inB a1 6 = true then
  (F_S_saved_54 N a1 a2 (gI x5.2 ((gR x5.2 1 11) + 4) (iN a1)) x5.2)
  else none)
  else
  (if inB a1 6 = true then
  (F_S_saved_54 N a1 a2 (gI x5.2 ((gR x5.2 1 11) + 5) (iN a1)) x5.2)
  else none)))))))
def C_S_saved (N : Nat) : MC := (KDL, false, (fun _ => 0), jsB, (fun j => match Nat.beq j 146 with
    | true => w_S_refuse (f_S_refuse N)
    | false => match Nat.beq j 148 with
    | true => w_S_tell (f_S_tell N)
    | false => match Nat.beq j 151 with
    | true => w_S_isOneOf (f_S_isOneOf N)
    | false => match Nat.beq j 153 with
    | true => w_S_isYear (f_S_isYear N)
    | false => match Nat.beq j 156 with
    | true => w_S_isCell (f_S_isCell N)
    | false => fun _ _ => none), (fun j => match Nat.beq j 82 with
    | true => w_Shakes_left (f_Shakes_left N)
    | false => fun _ _ => none), (fun _ _ _ => none), (fun _ _ _ => none))
def D_S_saved (N : Nat) (n pc : Nat) (lv : ML) (st : List MV) (h : MH) : Option (Int32 × MH) :=
  match Nat.beq pc 0 with
  | true => (match lk lv 0, lk lv 1, lk lv 2, lk lv 3, st with
    | some (.inr (.inr (0, 11, 1))), some (.inl a1), some (.inl a2), some (.inl a3), [] => f_S_saved N a1 a2 a3 h
    | _, _, _, _, _ => none)
  | false => match Nat.beq pc 54 with
  | true => (match lk lv 0, lk lv 1, lk lv 2, st with
    | some (.inr (.inr (0, 11, 1))), some (.inl a1), some (.inl a2), [.inl as0] => F_S_saved_54 N a1 a2 as0 h
    | _, _, _, _ => none)
  | false => none
set_option maxRecDepth 1000000 in
theorem E_S_saved_0 (N : Nat) (n : Nat) (a1 : Int32) (a2 : Int32) (a3 : Int32) (h : MH) : seg (C_S_saved N) 7 0 rI T_S_saved [0, 54] (fun q lv st h => match Nat.ble 1 q with
    | true => D_S_saved N n q lv st h
    | false => none) 400 true 0 [(0, .inr (.inr (0, 11, 1))), (1, .inl a1), (2, .inl a2), (3, .inl a3)] [] h = f_S_saved N a1 a2 a3 h := (rfl)
set_option maxRecDepth 1000000 in
theorem E_S_saved_54 (N : Nat) (n : Nat) (a1 : Int32) (a2 : Int32) (as0 : Int32) (h : MH) : seg (C_S_saved N) 7 0 rI T_S_saved [0, 54] (fun q lv st h => match Nat.ble 55 q with
    | true => D_S_saved N n q lv st h
    | false => none) 400 true 54 [(0, .inr (.inr (0, 11, 1))), (1, .inl a1), (2, .inl a2)] [.inl as0] h = F_S_saved_54 N a1 a2 as0 h := (rfl)
def T_S_chooseNet : List (List (Option RW)) := [
  [some (.aload_n 0, 1, [0], 0, 0), some (.getfield 25, 3, [11, 2, 2, 0, 3, 15], 0, 0), none, none, some (.aload_n 0, 1, [0], 0, 0), some (.getfield 81, 3, [11, 11, 3, 0, 2], 0, 0), none, none, some (.getfield 192, 3, [2, 1, 0], 0, 0), none, none, some (.invokevirtual 393, 3, [1, 23, 2, 0], 0, 0), none, none, some (.istore_n 3, 1, [3], 0, 0), some (.iconst (-1), 1, [], (-1), 0), some (.istore 4, 2, [4], 0, 0), none, some (.iconst 0, 1, [], 0, 0), some (.istore 5, 2, [5], 0, 0), none, some (.iconst 0, 1, [], 0, 0), some (.istore 6, 2, [6], 0, 0), none, some (.iconst 0, 1, [], 0, 0), some (.istore 7, 2, [7], 0, 0), none, some (.iload 7, 2, [7], 0, 0), none, some (.iconst 1, 1, [], 1, 0), some (.aload_n 0, 1, [0], 0, 0), some (.getfield 81, 3, [11, 11, 3, 0, 2], 0, 0)],
  [none, none, some (.getfield 192, 3, [2, 1, 0], 0, 0), none, none, some (.ishl, 1, [], 0, 0), some (.if_icmp .ge 91, 3, [129], 0, 0), none, none, some (.aload_n 1, 1, [1], 0, 0), some (.iload 7, 2, [7], 0, 0), none, some (.aload_n 0, 1, [0], 0, 0), some (.getfield 81, 3, [11, 11, 3, 0, 2], 0, 0), none, none, some (.getfield 192, 3, [2, 1, 0], 0, 0), none, none, some (.invokevirtual 396, 3, [1, 90, 3, 0], 0, 0), none, none, some (.istore 8, 2, [8], 0, 0), none, some (.iload 7, 2, [7], 0, 0), none, some (.iload_n 3, 1, [3], 0, 0), some (.iand, 1, [], 0, 0), some (.ifCond .ne 63, 3, [123], 0, 0), none, none, some (.iload 8, 2, [8], 0, 0)],
  [none, some (.iload_n 2, 1, [2], 0, 0), some (.if_icmp .le 6, 3, [72], 0, 0), none, none, some (.goto 54, 3, [123], 0, 0), none, none, some (.aload_n 0, 1, [0], 0, 0), some (.getfield 60, 3, [11, 7, 2, 0, 6, 47], 0, 0), none, none, some (.aload_n 0, 1, [0], 0, 0), some (.getfield 81, 3, [11, 11, 3, 0, 2], 0, 0), none, none, some (.iload 7, 2, [7], 0, 0), none, some (.iload_n 3, 1, [3], 0, 0), some (.ior, 1, [], 0, 0), some (.iconst (-1), 1, [], (-1), 0), some (.invokevirtual 329, 3, [1, 46, 4, 0], 0, 0), none, none, some (.istore 9, 2, [9], 0, 0), none, some (.iload 9, 2, [9], 0, 0), none, some (.iload 4, 2, [4], 0, 0), none, some (.if_icmp .gt 17, 3, [111], 0, 0), none],
  [none, some (.iload 9, 2, [9], 0, 0), none, some (.iload 4, 2, [4], 0, 0), none, some (.if_icmp .ne 22, 3, [123], 0, 0), none, none, some (.iload 8, 2, [8], 0, 0), none, some (.iload 5, 2, [5], 0, 0), none, some (.if_icmp .ge 15, 3, [123], 0, 0), none, none, some (.iload 9, 2, [9], 0, 0), none, some (.istore 4, 2, [4], 0, 0), none, some (.iload 8, 2, [8], 0, 0), none, some (.istore 5, 2, [5], 0, 0), none, some (.iload 7, 2, [7], 0, 0), none, some (.istore 6, 2, [6], 0, 0), none, some (.iinc 7 1, 3, [7], 1, 0), none, none, some (.goto (-99), 3, [27], 0, 0), none],
  [none, some (.aload_n 0, 1, [0], 0, 0), some (.iload 6, 2, [6], 0, 0), none, some (.putfield 98, 3, [11, 16, 0], 0, 0), none, none, some (.aload_n 0, 1, [0], 0, 0), some (.iload 5, 2, [5], 0, 0), none, some (.putfield 101, 3, [11, 17, 0], 0, 0), none, none, some (.iload 4, 2, [4], 0, 0), none, some (.ireturn, 1, [], 0, 0)]]
def F_S_chooseNet_111 (N : Nat) (bk : (Nat → Int32 → Int32 → Int32 → Int32 → Int32 → Int32 → MH → Option (Int32 × MH))) (r1 : Nat) (a2 : Int32) (a3 : Int32) (a7 : Int32) (a8 : Int32) (a9 : Int32) (h : MH) : Option (Int32 × MH) :=
  let v10 : Int32 := a7 + 1
  bk r1 a2 a3 a9 a8 a7 v10 h
def F_S_chooseNet_27 (N : Nat) (bk : (Nat → Int32 → Int32 → Int32 → Int32 → Int32 → Int32 → MH → Option (Int32 × MH))) (r1 : Nat) (a2 : Int32) (a3 : Int32) (a4 : Int32) (a5 : Int32) (a6 : Int32) (a7 : Int32) (h : MH) : Option (Int32 × MH) :=
  if ((1 : Int32) <<< ((gI h (gR h 1 11) 1) &&& 31)) ≤ a7 then
  (let h2 : MH := sI h 1 16 a6
  let h3 : MH := sI h2 1 17 a5
  some (a4, h3))
  else
  ((f_Tray_sumOf N r1 a7 (gI h (gR h 1 11) 1) h).bind (fun x4 =>
  if (a7 &&& a3) = 0 then
  (if x4.1 ≤ a2 then
  ((f_Ranks_of N (gR x4.2 1 11) (a7 ||| a3) ((-1)) x4.2).bind (fun x5 =>
  if a4 < x5.1 then
  (F_S_chooseNet_111 N bk r1 a2 a3 a7 x4.1 x5.1 x5.2)
  else
  (if x5.1 = a4 then
  (if a5 ≤ x4.1 then
  (let v6 : Int32 := a7 + 1
  bk r1 a2 a3 a4 a5 a6 v6 x5.2)
  else
  (F_S_chooseNet_111 N bk r1 a2 a3 a7 x4.1 x5.1 x5.2))
  else
  (let v7 : Int32 := a7 + 1
  bk r1 a2 a3 a4 a5 a6 v7 x5.2))))
  else
  (let v8 : Int32 := a7 + 1
  bk r1 a2 a3 a4 a5 a6 v8 x4.2))
  else
  (let v9 : Int32 := a7 + 1
  bk r1 a2 a3 a4 a5 a6 v9 x4.2)))
def F_S_chooseNet_0 (N : Nat) (bk : (Nat → Int32 → Int32 → Int32 → Int32 → Int32 → Int32 → MH → Option (Int32 × MH))) (r1 : Nat) (a2 : Int32) (h : MH) : Option (Int32 × MH) :=
  (f_Ledger_marksWithValues N (gI h (gR h 1 11) 1) h).bind (fun x1 =>
  F_S_chooseNet_27 N bk r1 a2 x1.1 ((-1)) 0 0 0 x1.2)
def L_S_chooseNet (N : Nat) : Nat → (Nat → Int32 → Int32 → Int32 → Int32 → Int32 → Int32 → MH → Option (Int32 × MH))
  | 0 => fun _ _ _ _ _ _ _ _ => none
  | n + 1 => F_S_chooseNet_27 N (L_S_chooseNet N n)
def f_S_chooseNet (N : Nat) (r1 : Nat) (a2 : Int32) (h : MH) : Option (Int32 × MH) := F_S_chooseNet_0 N (L_S_chooseNet N N) r1 a2 h
def C_S_chooseNet (N : Nat) : MC := (KDL, false, (fun _ => 0), jsB, (fun j => match Nat.beq j 23 with
    | true => w_Ledger_marksWithValues (f_Ledger_marksWithValues N)
    | false => match Nat.beq j 46 with
    | true => w_Ranks_of (f_Ranks_of N)
    | false => match Nat.beq j 90 with
    | true => w_Tray_sumOf (f_Tray_sumOf N)
    | false => fun _ _ => none), (fun _ _ _ => none), (fun _ _ _ => none), (fun _ _ _ => none))
def D_S_chooseNet (N : Nat) (n pc : Nat) (lv : ML) (st : List MV) (h : MH) : Option (Int32 × MH) :=
  match Nat.beq pc 0 with
  | true => (match lk lv 0, lk lv 1, lk lv 2, st with
    | some (.inr (.inr (0, 11, 1))), some (.inr (.inr (0, 9, r1))), some (.inl a2), [] => F_S_chooseNet_0 N (L_S_chooseNet N n) r1 a2 h
    | _, _, _, _ => none)
  | false => match Nat.beq pc 27 with
  | true => (match lk lv 0, lk lv 1, lk lv 2, lk lv 3, lk lv 4, lk lv 5, lk lv 6, lk lv 7, st with
    | some (.inr (.inr (0, 11, 1))), some (.inr (.inr (0, 9, r1))), some (.inl a2), some (.inl a3), some (.inl a4), some (.inl a5), some (.inl a6), some (.inl a7), [] => F_S_chooseNet_27 N (L_S_chooseNet N n) r1 a2 a3 a4 a5 a6 a7 h
    | _, _, _, _, _, _, _, _, _ => none)
  | false => match Nat.beq pc 111 with
  | true => (match lk lv 0, lk lv 1, lk lv 2, lk lv 3, lk lv 7, lk lv 8, lk lv 9, st with
    | some (.inr (.inr (0, 11, 1))), some (.inr (.inr (0, 9, r1))), some (.inl a2), some (.inl a3), some (.inl a7), some (.inl a8), some (.inl a9), [] => F_S_chooseNet_111 N (L_S_chooseNet N n) r1 a2 a3 a7 a8 a9 h
    | _, _, _, _, _, _, _, _ => none)
  | false => none
def B_S_chooseNet (N : Nat) (n pc : Nat) (lv : ML) (st : List MV) (h : MH) : Option (Int32 × MH) :=
  match Nat.beq pc 27 with
  | true => (match lk lv 0, lk lv 1, lk lv 2, lk lv 3, lk lv 4, lk lv 5, lk lv 6, lk lv 7, st with
    | some (.inr (.inr (0, 11, 1))), some (.inr (.inr (0, 9, r1))), some (.inl a2), some (.inl a3), some (.inl a4), some (.inl a5), some (.inl a6), some (.inl a7), [] => ((L_S_chooseNet N n)) r1 a2 a3 a4 a5 a6 a7 h
    | _, _, _, _, _, _, _, _, _ => none)
  | false => none
set_option maxRecDepth 1000000 in
theorem E_S_chooseNet_0 (N : Nat) (n : Nat) (r1 : Nat) (a2 : Int32) (h : MH) : seg (C_S_chooseNet N) 10 0 rI T_S_chooseNet [0, 27, 111] (fun q lv st h => match Nat.ble 1 q with
    | true => D_S_chooseNet N n q lv st h
    | false => B_S_chooseNet N n q lv st h) 400 true 0 [(0, .inr (.inr (0, 11, 1))), (1, .inr (.inr (0, 9, r1))), (2, .inl a2)] [] h = F_S_chooseNet_0 N (L_S_chooseNet N n) r1 a2 h := (rfl)
set_option maxRecDepth 1000000 in
theorem E_S_chooseNet_27 (N : Nat) (n : Nat) (r1 : Nat) (a2 : Int32) (a3 : Int32) (a4 : Int32) (a5 : Int32) (a6 : Int32) (a7 : Int32) (h : MH) : seg (C_S_chooseNet N) 10 0 rI T_S_chooseNet [0, 27, 111] (fun q lv st h => match Nat.ble 28 q with
    | true => D_S_chooseNet N n q lv st h
    | false => B_S_chooseNet N n q lv st h) 400 true 27 [(0, .inr (.inr (0, 11, 1))), (1, .inr (.inr (0, 9, r1))), (2, .inl a2), (3, .inl a3), (4, .inl a4), (5, .inl a5), (6, .inl a6), (7, .inl a7)] [] h = F_S_chooseNet_27 N (L_S_chooseNet N n) r1 a2 a3 a4 a5 a6 a7 h := (rfl)
set_option maxRecDepth 1000000 in
theorem E_S_chooseNet_111 (N : Nat) (n : Nat) (r1 : Nat) (a2 : Int32) (a3 : Int32) (a7 : Int32) (a8 : Int32) (a9 : Int32) (h : MH) : seg (C_S_chooseNet N) 10 0 rI T_S_chooseNet [0, 27, 111] (fun q lv st h => match Nat.ble 112 q with
    | true => D_S_chooseNet N n q lv st h
    | false => B_S_chooseNet N n q lv st h) 400 true 111 [(0, .inr (.inr (0, 11, 1))), (1, .inr (.inr (0, 9, r1))), (2, .inl a2), (3, .inl a3), (7, .inl a7), (8, .inl a8), (9, .inl a9)] [] h = F_S_chooseNet_111 N (L_S_chooseNet N n) r1 a2 a3 a7 a8 a9 h := (rfl)
def T_S_net : List (List (Option RW)) := [
  [some (.iload_n 1, 1, [1], 0, 0), some (.invokestatic 105, 3, [2, 152, 1, 0], 0, 0), none, none, some (.ifCond .eq 14, 3, [18], 0, 0), none, none, some (.iload_n 2, 1, [2], 0, 0), some (.iconst 0, 1, [], 0, 0), some (.sipush 10000, 3, [], 10000, 0), none, none, some (.invokestatic 207, 3, [2, 150, 3, 0], 0, 0), none, none, some (.ifCond .ne 9, 3, [24], 0, 0), none, none, some (.aload_n 0, 1, [0], 0, 0), some (.iconst 1, 1, [], 1, 0), some (.invokevirtual 128, 3, [0, 146, 2, 0], 0, 0), none, none, some (.ireturn, 1, [], 0, 0), some (.aload_n 0, 1, [0], 0, 0), some (.getfield 11, 3, [11, 0, 2, 5, 4, 1], 0, 0), none, none, some (.iload_n 1, 1, [1], 0, 0), some (.aaload, 1, [], 0, 0), some (.astore_n 3, 1, [3], 0, 0), some (.aload_n 3, 1, [3], 0, 0)],
  [some (.invokevirtual 136, 3, [1, 84, 1, 0], 0, 0), none, none, some (.ifCond .eq 9, 3, [44], 0, 0), none, none, some (.aload_n 0, 1, [0], 0, 0), some (.iconst 2, 1, [], 2, 0), some (.invokevirtual 128, 3, [0, 146, 2, 0], 0, 0), none, none, some (.ireturn, 1, [], 0, 0), some (.aload_n 3, 1, [3], 0, 0), some (.getfield 355, 3, [9, 2, 0], 0, 0), none, none, some (.aload_n 0, 1, [0], 0, 0), some (.getfield 81, 3, [11, 11, 3, 0, 2], 0, 0), none, none, some (.getfield 192, 3, [2, 1, 0], 0, 0), none, none, some (.if_icmp .ge 9, 3, [64], 0, 0), none, none, some (.aload_n 0, 1, [0], 0, 0), some (.iconst 3, 1, [], 3, 0), some (.invokevirtual 128, 3, [0, 146, 2, 0], 0, 0), none, none, some (.ireturn, 1, [], 0, 0)],
  [some (.aload_n 3, 1, [3], 0, 0), some (.aload_n 0, 1, [0], 0, 0), some (.getfield 81, 3, [11, 11, 3, 0, 2], 0, 0), none, none, some (.getfield 192, 3, [2, 1, 0], 0, 0), none, none, some (.iconst 0, 1, [], 0, 0), some (.sipush 1000, 3, [], 1000, 0), none, none, some (.invokevirtual 356, 3, [1, 89, 4, 0], 0, 0), none, none, some (.ifCond .ne 9, 3, [88], 0, 0), none, none, some (.aload_n 0, 1, [0], 0, 0), some (.iconst 1, 1, [], 1, 0), some (.invokevirtual 128, 3, [0, 146, 2, 0], 0, 0), none, none, some (.ireturn, 1, [], 0, 0), some (.aload_n 0, 1, [0], 0, 0), some (.aload_n 0, 1, [0], 0, 0), some (.aload_n 3, 1, [3], 0, 0), some (.iload_n 2, 1, [2], 0, 0), some (.invokevirtual 359, 3, [0, 162, 3, 0], 0, 0), none, none, some (.invokevirtual 183, 3, [0, 144, 2, 0], 0, 0)],
  [none, none, some (.ireturn, 1, [], 0, 0)]]
def f_S_net (N : Nat) (a1 : Int32) (a2 : Int32) (h : MH) : Option (Int32 × MH) :=
  (f_S_isTray N a1 h).bind (fun x1 =>
  if x1.1 = 0 then
  ((f_S_refuse N 1 x1.2).bind (fun x2 =>
  some (x2.1, x2.2)))
  else
  ((f_S_isWithin N a2 0 10000 x1.2).bind (fun x3 =>
  if x3.1 = 0 then
  ((f_S_refuse N 1 x3.2).bind (fun x4 =>
  some (x4.1, x4.2)))
  else
  (if inB a1 4 = true then
  ((f_Tray_isMissing N (gR x3.2 2 (iN a1)) x3.2).bind (fun x5 =>
  if x5.1 = 0 then
  (if (gI x5.2 (gR x5.2 1 11) 1) ≤ (gI x5.2 (gR x3.2 2 (iN a1)) 2) then
  ((f_Tray_allWithin N (gR x3.2 2 (iN a1)) (gI x5.2 (gR x5.2 1 11) 1) 0 1000 x5.2).bind (fun x6 =>
  if x6.1 = 0 then
  ((f_S_refuse N 1 x6.2).bind (fun x7 =>
  some (x7.1, x7.2)))
  else
  ((f_S_chooseNet N (gR x3.2 2 (iN a1)) a2 x6.2).bind (fun x8 =>
  (f_S_answer N x8.1 x8.2).bind (fun x9 =>
  some (x9.1, x9.2))))))
  else
  ((f_S_refuse N 3 x5.2).bind (fun x10 =>
  some (x10.1, x10.2))))
  else
  ((f_S_refuse N 2 x5.2).bind (fun x11 =>
  some (x11.1, x11.2)))))
  else none))))
def C_S_net (N : Nat) : MC := (KDL, false, (fun _ => 0), jsB, (fun j => match Nat.beq j 84 with
    | true => w_Tray_isMissing (f_Tray_isMissing N)
    | false => match Nat.beq j 89 with
    | true => w_Tray_allWithin (f_Tray_allWithin N)
    | false => match Nat.beq j 144 with
    | true => w_S_answer (f_S_answer N)
    | false => match Nat.beq j 146 with
    | true => w_S_refuse (f_S_refuse N)
    | false => match Nat.beq j 150 with
    | true => w_S_isWithin (f_S_isWithin N)
    | false => match Nat.beq j 152 with
    | true => w_S_isTray (f_S_isTray N)
    | false => match Nat.beq j 162 with
    | true => w_S_chooseNet (f_S_chooseNet N)
    | false => fun _ _ => none), (fun _ _ _ => none), (fun _ _ _ => none), (fun _ _ _ => none))
def D_S_net (N : Nat) (n pc : Nat) (lv : ML) (st : List MV) (h : MH) : Option (Int32 × MH) :=
  match Nat.beq pc 0 with
  | true => (match lk lv 0, lk lv 1, lk lv 2, st with
    | some (.inr (.inr (0, 11, 1))), some (.inl a1), some (.inl a2), [] => f_S_net N a1 a2 h
    | _, _, _, _ => none)
  | false => none
set_option maxRecDepth 1000000 in
theorem E_S_net_0 (N : Nat) (n : Nat) (a1 : Int32) (a2 : Int32) (h : MH) : seg (C_S_net N) 4 0 rI T_S_net [0] (fun q lv st h => match Nat.ble 1 q with
    | true => D_S_net N n q lv st h
    | false => none) 400 true 0 [(0, .inr (.inr (0, 11, 1))), (1, .inl a1), (2, .inl a2)] [] h = f_S_net N a1 a2 h := (rfl)
def T_S_netTold : List (List (Option RW)) := [
  [some (.iload_n 1, 1, [1], 0, 0), some (.iconst 2, 1, [], 2, 0), some (.invokestatic 186, 3, [2, 151, 2, 0], 0, 0), none, none, some (.ifCond .ne 9, 3, [14], 0, 0), none, none, some (.aload_n 0, 1, [0], 0, 0), some (.iconst 1, 1, [], 1, 0), some (.invokevirtual 128, 3, [0, 146, 2, 0], 0, 0), none, none, some (.ireturn, 1, [], 0, 0), some (.aload_n 0, 1, [0], 0, 0), some (.getfield 98, 3, [11, 16, 0], 0, 0), none, none, some (.ifCond .ge 10, 3, [28], 0, 0), none, none, some (.aload_n 0, 1, [0], 0, 0), some (.bipush 6, 2, [], 6, 0), none, some (.invokevirtual 128, 3, [0, 146, 2, 0], 0, 0), none, none, some (.ireturn, 1, [], 0, 0), some (.aload_n 0, 1, [0], 0, 0), some (.iload_n 1, 1, [1], 0, 0), some (.ifCond .ne 10, 3, [40], 0, 0), none],
  [none, some (.aload_n 0, 1, [0], 0, 0), some (.getfield 98, 3, [11, 16, 0], 0, 0), none, none, some (.goto 7, 3, [44], 0, 0), none, none, some (.aload_n 0, 1, [0], 0, 0), some (.getfield 101, 3, [11, 17, 0], 0, 0), none, none, some (.invokevirtual 183, 3, [0, 144, 2, 0], 0, 0), none, none, some (.ireturn, 1, [], 0, 0)]]
def f_S_netTold (N : Nat) (a1 : Int32) (h : MH) : Option (Int32 × MH) :=
  (f_S_isOneOf N a1 2 h).bind (fun x1 =>
  if x1.1 = 0 then
  ((f_S_refuse N 1 x1.2).bind (fun x2 =>
  some (x2.1, x2.2)))
  else
  (if 0 ≤ (gI x1.2 1 16) then
  (if a1 = 0 then
  ((f_S_answer N (gI x1.2 1 16) x1.2).bind (fun x3 =>
  some (x3.1, x3.2)))
  else
  ((f_S_answer N (gI x1.2 1 17) x1.2).bind (fun x4 =>
  some (x4.1, x4.2))))
  else
  ((f_S_refuse N 6 x1.2).bind (fun x5 =>
  some (x5.1, x5.2)))))
def C_S_netTold (N : Nat) : MC := (KDL, false, (fun _ => 0), jsB, (fun j => match Nat.beq j 144 with
    | true => w_S_answer (f_S_answer N)
    | false => match Nat.beq j 146 with
    | true => w_S_refuse (f_S_refuse N)
    | false => match Nat.beq j 151 with
    | true => w_S_isOneOf (f_S_isOneOf N)
    | false => fun _ _ => none), (fun _ _ _ => none), (fun _ _ _ => none), (fun _ _ _ => none))
def D_S_netTold (N : Nat) (n pc : Nat) (lv : ML) (st : List MV) (h : MH) : Option (Int32 × MH) :=
  match Nat.beq pc 0 with
  | true => (match lk lv 0, lk lv 1, st with
    | some (.inr (.inr (0, 11, 1))), some (.inl a1), [] => f_S_netTold N a1 h
    | _, _, _ => none)
  | false => none
set_option maxRecDepth 1000000 in
theorem E_S_netTold_0 (N : Nat) (n : Nat) (a1 : Int32) (h : MH) : seg (C_S_netTold N) 2 0 rI T_S_netTold [0] (fun q lv st h => match Nat.ble 1 q with
    | true => D_S_netTold N n q lv st h
    | false => none) 400 true 0 [(0, .inr (.inr (0, 11, 1))), (1, .inl a1)] [] h = f_S_netTold N a1 h := (rfl)
def T_S_few : List (List (Option RW)) := [
  [some (.iload_n 1, 1, [1], 0, 0), some (.invokestatic 105, 3, [2, 152, 1, 0], 0, 0), none, none, some (.ifCond .eq 42, 3, [46], 0, 0), none, none, some (.iload_n 2, 1, [2], 0, 0), some (.iconst 1, 1, [], 1, 0), some (.bipush 8, 2, [], 8, 0), none, some (.invokestatic 207, 3, [2, 150, 3, 0], 0, 0), none, none, some (.ifCond .eq 32, 3, [46], 0, 0), none, none, some (.iload_n 3, 1, [3], 0, 0), some (.iconst 0, 1, [], 0, 0), some (.sipush 2000, 3, [], 2000, 0), none, none, some (.invokestatic 207, 3, [2, 150, 3, 0], 0, 0), none, none, some (.ifCond .eq 21, 3, [46], 0, 0), none, none, some (.iload 4, 2, [4], 0, 0), none, some (.iconst 0, 1, [], 0, 0), some (.sipush 2000, 3, [], 2000, 0)],
  [none, none, some (.invokestatic 207, 3, [2, 150, 3, 0], 0, 0), none, none, some (.ifCond .eq 9, 3, [46], 0, 0), none, none, some (.iload 4, 2, [4], 0, 0), none, some (.iload_n 3, 1, [3], 0, 0), some (.if_icmp .ge 9, 3, [52], 0, 0), none, none, some (.aload_n 0, 1, [0], 0, 0), some (.iconst 1, 1, [], 1, 0), some (.invokevirtual 128, 3, [0, 146, 2, 0], 0, 0), none, none, some (.ireturn, 1, [], 0, 0), some (.aload_n 0, 1, [0], 0, 0), some (.getfield 11, 3, [11, 0, 2, 5, 4, 1], 0, 0), none, none, some (.iload_n 1, 1, [1], 0, 0), some (.aaload, 1, [], 0, 0), some (.astore 5, 2, [5], 0, 0), none, some (.aload 5, 2, [5], 0, 0), none, some (.invokevirtual 136, 3, [1, 84, 1, 0], 0, 0), none],
  [none, some (.ifCond .eq 9, 3, [74], 0, 0), none, none, some (.aload_n 0, 1, [0], 0, 0), some (.iconst 2, 1, [], 2, 0), some (.invokevirtual 128, 3, [0, 146, 2, 0], 0, 0), none, none, some (.ireturn, 1, [], 0, 0), some (.aload 5, 2, [5], 0, 0), none, some (.getfield 355, 3, [9, 2, 0], 0, 0), none, none, some (.iload_n 2, 1, [2], 0, 0), some (.if_icmp .ge 9, 3, [89], 0, 0), none, none, some (.aload_n 0, 1, [0], 0, 0), some (.iconst 3, 1, [], 3, 0), some (.invokevirtual 128, 3, [0, 146, 2, 0], 0, 0), none, none, some (.ireturn, 1, [], 0, 0), some (.aload 5, 2, [5], 0, 0), none, some (.iload_n 2, 1, [2], 0, 0), some (.iconst 1, 1, [], 1, 0), some (.bipush 99, 2, [], 99, 0), none, some (.invokevirtual 356, 3, [1, 89, 4, 0], 0, 0)],
  [none, none, some (.ifCond .ne 9, 3, [107], 0, 0), none, none, some (.aload_n 0, 1, [0], 0, 0), some (.iconst 1, 1, [], 1, 0), some (.invokevirtual 128, 3, [0, 146, 2, 0], 0, 0), none, none, some (.ireturn, 1, [], 0, 0), some (.aload_n 0, 1, [0], 0, 0), some (.getfield 67, 3, [11, 8, 2, 0, 1, 49], 0, 0), none, none, some (.aload 5, 2, [5], 0, 0), none, some (.iload_n 2, 1, [2], 0, 0), some (.iload_n 3, 1, [3], 0, 0), some (.iload 4, 2, [4], 0, 0), none, some (.invokevirtual 363, 3, [1, 9, 5, 0], 0, 0), none, none, some (.istore 6, 2, [6], 0, 0), none, some (.iload 6, 2, [6], 0, 0), none, some (.ifCond .ge 12, 3, [136], 0, 0), none, none, some (.aload_n 0, 1, [0], 0, 0)],
  [some (.bipush 6, 2, [], 6, 0), none, some (.invokevirtual 128, 3, [0, 146, 2, 0], 0, 0), none, none, some (.goto 9, 3, [142], 0, 0), none, none, some (.aload_n 0, 1, [0], 0, 0), some (.iload 6, 2, [6], 0, 0), none, some (.invokevirtual 183, 3, [0, 144, 2, 0], 0, 0), none, none, some (.ireturn, 1, [], 0, 0)]]
def f_S_few (N : Nat) (a1 : Int32) (a2 : Int32) (a3 : Int32) (a4 : Int32) (h : MH) : Option (Int32 × MH) :=
  (f_S_isTray N a1 h).bind (fun x1 =>
  if x1.1 = 0 then
  ((f_S_refuse N 1 x1.2).bind (fun x2 =>
  some (x2.1, x2.2)))
  else
  ((f_S_isWithin N a2 1 8 x1.2).bind (fun x3 =>
  if x3.1 = 0 then
  ((f_S_refuse N 1 x3.2).bind (fun x4 =>
  some (x4.1, x4.2)))
  else
  ((f_S_isWithin N a3 0 2000 x3.2).bind (fun x5 =>
  if x5.1 = 0 then
  ((f_S_refuse N 1 x5.2).bind (fun x6 =>
  some (x6.1, x6.2)))
  else
  ((f_S_isWithin N a4 0 2000 x5.2).bind (fun x7 =>
  if x7.1 = 0 then
  ((f_S_refuse N 1 x7.2).bind (fun x8 =>
  some (x8.1, x8.2)))
  else
  (if a3 ≤ a4 then
  (if inB a1 4 = true then
  ((f_Tray_isMissing N (gR x7.2 2 (iN a1)) x7.2).bind (fun x9 =>
  if x9.1 = 0 then
  (if a2 ≤ (gI x9.2 (gR x7.2 2 (iN a1)) 2) then
  ((f_Tray_allWithin N (gR x7.2 2 (iN a1)) a2 1 99 x9.2).bind (fun x10 =>
  if x10.1 = 0 then
  ((f_S_refuse N 1 x10.2).bind (fun x11 =>
  some (x11.1, x11.2)))
  else
  ((f_Few_find N (gR x7.2 2 (iN a1)) a2 a3 a4 x10.2).bind (fun x12 =>
  if 0 ≤ x12.1 then
  ((f_S_answer N x12.1 x12.2).bind (fun x13 =>
  some (x13.1, x13.2)))
  else
  ((f_S_refuse N 6 x12.2).bind (fun x14 =>
  some (x14.1, x14.2)))))))
  else
  ((f_S_refuse N 3 x9.2).bind (fun x15 =>
  some (x15.1, x15.2))))
  else
  ((f_S_refuse N 2 x9.2).bind (fun x16 =>
  some (x16.1, x16.2)))))
  else none)
  else
  ((f_S_refuse N 1 x7.2).bind (fun x17 =>
  some (x17.1, x17.2)))))))))))
def C_S_few (N : Nat) : MC := (KDL, false, (fun _ => 0), jsB, (fun j => match Nat.beq j 9 with
    | true => w_Few_find (f_Few_find N)
    | false => match Nat.beq j 84 with
    | true => w_Tray_isMissing (f_Tray_isMissing N)
    | false => match Nat.beq j 89 with
    | true => w_Tray_allWithin (f_Tray_allWithin N)
    | false => match Nat.beq j 144 with
    | true => w_S_answer (f_S_answer N)
    | false => match Nat.beq j 146 with
    | true => w_S_refuse (f_S_refuse N)
    | false => match Nat.beq j 150 with
    | true => w_S_isWithin (f_S_isWithin N)
    | false => match Nat.beq j 152 with
    | true => w_S_isTray (f_S_isTray N)
    | false => fun _ _ => none), (fun _ _ _ => none), (fun _ _ _ => none), (fun _ _ _ => none))
def D_S_few (N : Nat) (n pc : Nat) (lv : ML) (st : List MV) (h : MH) : Option (Int32 × MH) :=
  match Nat.beq pc 0 with
  | true => (match lk lv 0, lk lv 1, lk lv 2, lk lv 3, lk lv 4, st with
    | some (.inr (.inr (0, 11, 1))), some (.inl a1), some (.inl a2), some (.inl a3), some (.inl a4), [] => f_S_few N a1 a2 a3 a4 h
    | _, _, _, _, _, _ => none)
  | false => none
set_option maxRecDepth 1000000 in
theorem E_S_few_0 (N : Nat) (n : Nat) (a1 : Int32) (a2 : Int32) (a3 : Int32) (a4 : Int32) (h : MH) : seg (C_S_few N) 7 0 rI T_S_few [0] (fun q lv st h => match Nat.ble 1 q with
    | true => D_S_few N n q lv st h
    | false => none) 400 true 0 [(0, .inr (.inr (0, 11, 1))), (1, .inl a1), (2, .inl a2), (3, .inl a3), (4, .inl a4)] [] h = f_S_few N a1 a2 a3 a4 h := (rfl)
def T_S_fewOf : List (List (Option RW)) := [
  [some (.iload_n 1, 1, [1], 0, 0), some (.ifCond .ge 9, 3, [10], 0, 0), none, none, some (.aload_n 0, 1, [0], 0, 0), some (.iconst 1, 1, [], 1, 0), some (.invokevirtual 128, 3, [0, 146, 2, 0], 0, 0), none, none, some (.ireturn, 1, [], 0, 0), some (.iload_n 1, 1, [1], 0, 0), some (.aload_n 0, 1, [0], 0, 0), some (.getfield 67, 3, [11, 8, 2, 0, 1, 49], 0, 0), none, none, some (.getfield 367, 3, [1, 3, 0], 0, 0), none, none, some (.if_icmp .ge 9, 3, [27], 0, 0), none, none, some (.iload_n 1, 1, [1], 0, 0), some (.bipush 8, 2, [], 8, 0), none, some (.if_icmp .lt 10, 3, [34], 0, 0), none, none, some (.aload_n 0, 1, [0], 0, 0), some (.bipush 6, 2, [], 6, 0), none, some (.invokevirtual 128, 3, [0, 146, 2, 0], 0, 0), none],
  [none, some (.ireturn, 1, [], 0, 0), some (.aload_n 0, 1, [0], 0, 0), some (.aload_n 0, 1, [0], 0, 0), some (.getfield 67, 3, [11, 8, 2, 0, 1, 49], 0, 0), none, none, some (.getfield 370, 3, [1, 1, 2, 1, 8, 2], 0, 0), none, none, some (.iload_n 1, 1, [1], 0, 0), some (.iaload, 1, [], 0, 0), some (.invokevirtual 183, 3, [0, 144, 2, 0], 0, 0), none, none, some (.ireturn, 1, [], 0, 0)]]
def f_S_fewOf (N : Nat) (a1 : Int32) (h : MH) : Option (Int32 × MH) :=
  if 0 ≤ a1 then
  (if (gI h 50 3) ≤ a1 then
  ((f_S_refuse N 6 h).bind (fun x1 =>
  some (x1.1, x1.2)))
  else
  (if a1 < 8 then
  (if inB a1 8 = true then
  ((f_S_answer N (gI h 52 (iN a1)) h).bind (fun x2 =>
  some (x2.1, x2.2)))
  else none)
  else
  ((f_S_refuse N 6 h).bind (fun x3 =>
  some (x3.1, x3.2)))))
  else
  ((f_S_refuse N 1 h).bind (fun x4 =>
  some (x4.1, x4.2)))
def C_S_fewOf (N : Nat) : MC := (KDL, false, (fun _ => 0), jsB, (fun j => match Nat.beq j 144 with
    | true => w_S_answer (f_S_answer N)
    | false => match Nat.beq j 146 with
    | true => w_S_refuse (f_S_refuse N)
    | false => fun _ _ => none), (fun _ _ _ => none), (fun _ _ _ => none), (fun _ _ _ => none))
def D_S_fewOf (N : Nat) (n pc : Nat) (lv : ML) (st : List MV) (h : MH) : Option (Int32 × MH) :=
  match Nat.beq pc 0 with
  | true => (match lk lv 0, lk lv 1, st with
    | some (.inr (.inr (0, 11, 1))), some (.inl a1), [] => f_S_fewOf N a1 h
    | _, _, _ => none)
  | false => none
set_option maxRecDepth 1000000 in
theorem E_S_fewOf_0 (N : Nat) (n : Nat) (a1 : Int32) (h : MH) : seg (C_S_fewOf N) 2 0 rI T_S_fewOf [0] (fun q lv st h => match Nat.ble 1 q with
    | true => D_S_fewOf N n q lv st h
    | false => none) 400 true 0 [(0, .inr (.inr (0, 11, 1))), (1, .inl a1)] [] h = f_S_fewOf N a1 h := (rfl)
def T_M_status : List (List (Option RW)) := [
  [some (.aload_n 0, 1, [0], 0, 0), some (.getfield 174, 3, [12, 0, 0], 0, 0), none, none, some (.ireturn, 1, [], 0, 0)]]
def f_M_status (N : Nat) (h : MH) : Option (Int32 × MH) :=
  some (gI h 68 0, h)
def C_M_status (N : Nat) : MC := (KDL, false, (fun _ => 0), jsB, (fun _ _ _ => none), (fun _ _ _ => none), (fun _ _ _ => none), (fun _ _ _ => none))
def D_M_status (N : Nat) (n pc : Nat) (lv : ML) (st : List MV) (h : MH) : Option (Int32 × MH) :=
  match Nat.beq pc 0 with
  | true => (match lk lv 0, st with
    | some (.inr (.inr (0, 12, 68))), [] => f_M_status N h
    | _, _ => none)
  | false => none
set_option maxRecDepth 1000000 in
theorem E_M_status_0 (N : Nat) (n : Nat) (h : MH) : seg (C_M_status N) 1 0 rI T_M_status [0] (fun q lv st h => match Nat.ble 1 q with
    | true => D_M_status N n q lv st h
    | false => none) 400 true 0 [(0, .inr (.inr (0, 12, 68)))] [] h = f_M_status N h := (rfl)
def T_M_top : List (List (Option RW)) := [
  [some (.aload_n 0, 1, [0], 0, 0), some (.getfield 177, 3, [12, 1, 1], 0, 0), none, none, some (.lreturn, 1, [], 0, 0)]]
def f_M_top (N : Nat) (h : MH) : Option (Int64 × MH) :=
  some (gJ h 68 1, h)
def C_M_top (N : Nat) : MC := (KDL, false, (fun _ => 0), jsB, (fun _ _ _ => none), (fun _ _ _ => none), (fun _ _ _ => none), (fun _ _ _ => none))
def D_M_top (N : Nat) (n pc : Nat) (lv : ML) (st : List MV) (h : MH) : Option (Int64 × MH) :=
  match Nat.beq pc 0 with
  | true => (match lk lv 0, st with
    | some (.inr (.inr (0, 12, 68))), [] => f_M_top N h
    | _, _ => none)
  | false => none
set_option maxRecDepth 1000000 in
theorem E_M_top_0 (N : Nat) (n : Nat) (h : MH) : seg (C_M_top N) 1 0 rJ T_M_top [0] (fun q lv st h => match Nat.ble 1 q with
    | true => D_M_top N n q lv st h
    | false => none) 400 true 0 [(0, .inr (.inr (0, 12, 68)))] [] h = f_M_top N h := (rfl)
def T_M_bottom : List (List (Option RW)) := [
  [some (.aload_n 0, 1, [0], 0, 0), some (.getfield 7, 3, [12, 2, 1], 0, 0), none, none, some (.lreturn, 1, [], 0, 0)]]
def f_M_bottom (N : Nat) (h : MH) : Option (Int64 × MH) :=
  some (gJ h 68 2, h)
def C_M_bottom (N : Nat) : MC := (KDL, false, (fun _ => 0), jsB, (fun _ _ _ => none), (fun _ _ _ => none), (fun _ _ _ => none), (fun _ _ _ => none))
def D_M_bottom (N : Nat) (n pc : Nat) (lv : ML) (st : List MV) (h : MH) : Option (Int64 × MH) :=
  match Nat.beq pc 0 with
  | true => (match lk lv 0, st with
    | some (.inr (.inr (0, 12, 68))), [] => f_M_bottom N h
    | _, _ => none)
  | false => none
set_option maxRecDepth 1000000 in
theorem E_M_bottom_0 (N : Nat) (n : Nat) (h : MH) : seg (C_M_bottom N) 1 0 rJ T_M_bottom [0] (fun q lv st h => match Nat.ble 1 q with
    | true => D_M_bottom N n q lv st h
    | false => none) 400 true 0 [(0, .inr (.inr (0, 12, 68)))] [] h = f_M_bottom N h := (rfl)
def T_M_is : List (List (Option RW)) := [
  [some (.aload_n 0, 1, [0], 0, 0), some (.iload_n 1, 1, [1], 0, 0), some (.putfield 174, 3, [12, 0, 0], 0, 0), none, none, some (.iload_n 1, 1, [1], 0, 0), some (.ifCond .ne 7, 3, [13], 0, 0), none, none, some (.iconst 1, 1, [], 1, 0), some (.goto 4, 3, [14], 0, 0), none, none, some (.iconst 0, 1, [], 0, 0), some (.ireturn, 1, [], 0, 0)]]
def f_M_is (N : Nat) (a1 : Int32) (h : MH) : Option (Int32 × MH) :=
  let h1 : MH := sI h 68 0 a1
  if a1 = 0 then
  (some (1, h1))
  else
  (some (0, h1))
def C_M_is (N : Nat) : MC := (KDL, false, (fun _ => 0), jsB, (fun _ _ _ => none), (fun _ _ _ => none), (fun _ _ _ => none), (fun _ _ _ => none))
def D_M_is (N : Nat) (n pc : Nat) (lv : ML) (st : List MV) (h : MH) : Option (Int32 × MH) :=
  match Nat.beq pc 0 with
  | true => (match lk lv 0, lk lv 1, st with
    | some (.inr (.inr (0, 12, 68))), some (.inl a1), [] => f_M_is N a1 h
    | _, _, _ => none)
  | false => none
set_option maxRecDepth 1000000 in
theorem E_M_is_0 (N : Nat) (n : Nat) (a1 : Int32) (h : MH) : seg (C_M_is N) 2 1 rI T_M_is [0] (fun q lv st h => match Nat.ble 1 q with
    | true => D_M_is N n q lv st h
    | false => none) 400 true 0 [(0, .inr (.inr (0, 12, 68))), (1, .inl a1)] [] h = f_M_is N a1 h := (rfl)
def T_M_refuse : List (List (Option RW)) := [
  [some (.aload_n 0, 1, [0], 0, 0), some (.iload_n 1, 1, [1], 0, 0), some (.putfield 174, 3, [12, 0, 0], 0, 0), none, none, some (.iconst (-1), 1, [], (-1), 0), some (.ireturn, 1, [], 0, 0)]]
def f_M_refuse (N : Nat) (a1 : Int32) (h : MH) : Option (Int32 × MH) :=
  let h1 : MH := sI h 68 0 a1
  some ((-1), h1)
def C_M_refuse (N : Nat) : MC := (KDL, false, (fun _ => 0), jsB, (fun _ _ _ => none), (fun _ _ _ => none), (fun _ _ _ => none), (fun _ _ _ => none))
def D_M_refuse (N : Nat) (n pc : Nat) (lv : ML) (st : List MV) (h : MH) : Option (Int32 × MH) :=
  match Nat.beq pc 0 with
  | true => (match lk lv 0, lk lv 1, st with
    | some (.inr (.inr (0, 12, 68))), some (.inl a1), [] => f_M_refuse N a1 h
    | _, _, _ => none)
  | false => none
set_option maxRecDepth 1000000 in
theorem E_M_refuse_0 (N : Nat) (n : Nat) (a1 : Int32) (h : MH) : seg (C_M_refuse N) 2 0 rI T_M_refuse [0] (fun q lv st h => match Nat.ble 1 q with
    | true => D_M_refuse N n q lv st h
    | false => none) 400 true 0 [(0, .inr (.inr (0, 12, 68))), (1, .inl a1)] [] h = f_M_refuse N a1 h := (rfl)
def T_M_gives : List (List (Option RW)) := [
  [some (.aload_n 0, 1, [0], 0, 0), some (.iconst 0, 1, [], 0, 0), some (.putfield 174, 3, [12, 0, 0], 0, 0), none, none, some (.iload_n 1, 1, [1], 0, 0), some (.ireturn, 1, [], 0, 0)]]
def f_M_gives (N : Nat) (a1 : Int32) (h : MH) : Option (Int32 × MH) :=
  let h1 : MH := sI h 68 0 0
  some (a1, h1)
def C_M_gives (N : Nat) : MC := (KDL, false, (fun _ => 0), jsB, (fun _ _ _ => none), (fun _ _ _ => none), (fun _ _ _ => none), (fun _ _ _ => none))
def D_M_gives (N : Nat) (n pc : Nat) (lv : ML) (st : List MV) (h : MH) : Option (Int32 × MH) :=
  match Nat.beq pc 0 with
  | true => (match lk lv 0, lk lv 1, st with
    | some (.inr (.inr (0, 12, 68))), some (.inl a1), [] => f_M_gives N a1 h
    | _, _, _ => none)
  | false => none
set_option maxRecDepth 1000000 in
theorem E_M_gives_0 (N : Nat) (n : Nat) (a1 : Int32) (h : MH) : seg (C_M_gives N) 2 0 rI T_M_gives [0] (fun q lv st h => match Nat.ble 1 q with
    | true => D_M_gives N n q lv st h
    | false => none) 400 true 0 [(0, .inr (.inr (0, 12, 68))), (1, .inl a1)] [] h = f_M_gives N a1 h := (rfl)
def T_M_fraction : List (List (Option RW)) := [
  [some (.lload_n 1, 1, [1], 0, 0), some (.lconst 0, 1, [], 0, 0), some (.lcmp, 1, [], 0, 0), some (.ifCond .ge 8, 3, [11], 0, 0), none, none, some (.lload_n 1, 1, [1], 0, 0), some (.lneg, 1, [], 0, 0), some (.goto 4, 3, [12], 0, 0), none, none, some (.lload_n 1, 1, [1], 0, 0), some (.lstore 5, 2, [5], 0, 0), none, some (.lload_n 3, 1, [3], 0, 0), some (.lstore 7, 2, [7], 0, 0), none, some (.lload 7, 2, [7], 0, 0), none, some (.lconst 0, 1, [], 0, 0), some (.lcmp, 1, [], 0, 0), some (.ifCond .eq 21, 3, [42], 0, 0), none, none, some (.lload 5, 2, [5], 0, 0), none, some (.lload 7, 2, [7], 0, 0), none, some (.lrem, 1, [], 0, 0), some (.lstore 9, 2, [9], 0, 0), none, some (.lload 7, 2, [7], 0, 0)],
  [none, some (.lstore 5, 2, [5], 0, 0), none, some (.lload 9, 2, [9], 0, 0), none, some (.lstore 7, 2, [7], 0, 0), none, some (.goto (-22), 3, [17], 0, 0), none, none, some (.aload_n 0, 1, [0], 0, 0), some (.lload_n 1, 1, [1], 0, 0), some (.lload 5, 2, [5], 0, 0), none, some (.ldiv, 1, [], 0, 0), some (.putfield 177, 3, [12, 1, 1], 0, 0), none, none, some (.aload_n 0, 1, [0], 0, 0), some (.lload_n 3, 1, [3], 0, 0), some (.lload 5, 2, [5], 0, 0), none, some (.ldiv, 1, [], 0, 0), some (.putfield 7, 3, [12, 2, 1], 0, 0), none, none, some (.aload_n 0, 1, [0], 0, 0), some (.lload_n 1, 1, [1], 0, 0), some (.lconst 0, 1, [], 0, 0), some (.lcmp, 1, [], 0, 0), some (.ifCond .le 7, 3, [69], 0, 0), none],
  [none, some (.iconst 1, 1, [], 1, 0), some (.goto 14, 3, [80], 0, 0), none, none, some (.lload_n 1, 1, [1], 0, 0), some (.lconst 0, 1, [], 0, 0), some (.lcmp, 1, [], 0, 0), some (.ifCond .ge 7, 3, [79], 0, 0), none, none, some (.iconst (-1), 1, [], (-1), 0), some (.goto 4, 3, [80], 0, 0), none, none, some (.iconst 0, 1, [], 0, 0), some (.invokevirtual 180, 3, [0, 169, 2, 0], 0, 0), none, none, some (.ireturn, 1, [], 0, 0)]]
def F_M_fraction_17 (N : Nat) (bk : (Int64 → Int64 → Int64 → Int64 → MH → Option (Int32 × MH))) (a1 : Int64) (a3 : Int64) (a5 : Int64) (a7 : Int64) (h : MH) : Option (Int32 × MH) :=
  if (lg_cmp a7 0) = 0 then
  (if a5 = 0 then none else
  let h2 : MH := sJ h 68 1 (a1 / a5)
  if a5 = 0 then none else
  let h3 : MH := sJ h2 68 2 (a3 / a5)
  if (lg_cmp a1 0) ≤ 0 then
  (if 0 ≤ (lg_cmp a1 0) then
  ((f_M_gives N 0 h3).bind (fun x4 =>
  some (x4.1, x4.2)))
  else
  ((f_M_gives N ((-1)) h3).bind (fun x5 =>
  some (x5.1, x5.2))))
  else
  ((f_M_gives N 1 h3).bind (fun x6 =>
  some (x6.1, x6.2))))
  else
  (if a7 = 0 then none else
  let v7 : Int64 := a5 - a5 / a7 * a7
  bk a1 a3 a7 v7 h)
def F_M_fraction_0 (N : Nat) (bk : (Int64 → Int64 → Int64 → Int64 → MH → Option (Int32 × MH))) (a1 : Int64) (a3 : Int64) (h : MH) : Option (Int32 × MH) :=
  if 0 ≤ (lg_cmp a1 0) then
  (F_M_fraction_17 N bk a1 a3 a1 a3 h)
  else
  (let v1 : Int64 := -a1
  F_M_fraction_17 N bk a1 a3 v1 a3 h)
def L_M_fraction (N : Nat) : Nat → (Int64 → Int64 → Int64 → Int64 → MH → Option (Int32 × MH))
  | 0 => fun _ _ _ _ _ => none
  | n + 1 => F_M_fraction_17 N (L_M_fraction N n)
def f_M_fraction (N : Nat) (a1 : Int64) (a3 : Int64) (h : MH) : Option (Int32 × MH) := F_M_fraction_0 N (L_M_fraction N N) a1 a3 h
def C_M_fraction (N : Nat) : MC := (KDL, false, (fun _ => 0), jsB, (fun j => match Nat.beq j 169 with
    | true => w_M_gives (f_M_gives N)
    | false => fun _ _ => none), (fun _ _ _ => none), (fun _ _ _ => none), (fun _ _ _ => none))
def D_M_fraction (N : Nat) (n pc : Nat) (lv : ML) (st : List MV) (h : MH) : Option (Int32 × MH) :=
  match Nat.beq pc 0 with
  | true => (match lk lv 0, lk lv 1, lk lv 3, st with
    | some (.inr (.inr (0, 12, 68))), some (.inr (.inl a1)), some (.inr (.inl a3)), [] => F_M_fraction_0 N (L_M_fraction N n) a1 a3 h
    | _, _, _, _ => none)
  | false => match Nat.beq pc 17 with
  | true => (match lk lv 0, lk lv 1, lk lv 3, lk lv 5, lk lv 7, st with
    | some (.inr (.inr (0, 12, 68))), some (.inr (.inl a1)), some (.inr (.inl a3)), some (.inr (.inl a5)), some (.inr (.inl a7)), [] => F_M_fraction_17 N (L_M_fraction N n) a1 a3 a5 a7 h
    | _, _, _, _, _, _ => none)
  | false => none
def B_M_fraction (N : Nat) (n pc : Nat) (lv : ML) (st : List MV) (h : MH) : Option (Int32 × MH) :=
  match Nat.beq pc 17 with
  | true => (match lk lv 0, lk lv 1, lk lv 3, lk lv 5, lk lv 7, st with
    | some (.inr (.inr (0, 12, 68))), some (.inr (.inl a1)), some (.inr (.inl a3)), some (.inr (.inl a5)), some (.inr (.inl a7)), [] => ((L_M_fraction N n)) a1 a3 a5 a7 h
    | _, _, _, _, _, _ => none)
  | false => none
set_option maxRecDepth 1000000 in
theorem E_M_fraction_0 (N : Nat) (n : Nat) (a1 : Int64) (a3 : Int64) (h : MH) : seg (C_M_fraction N) 11 0 rI T_M_fraction [0, 17] (fun q lv st h => match Nat.ble 1 q with
    | true => D_M_fraction N n q lv st h
    | false => B_M_fraction N n q lv st h) 400 true 0 [(0, .inr (.inr (0, 12, 68))), (1, .inr (.inl a1)), (3, .inr (.inl a3))] [] h = F_M_fraction_0 N (L_M_fraction N n) a1 a3 h := (rfl)
set_option maxRecDepth 1000000 in
theorem E_M_fraction_17 (N : Nat) (n : Nat) (a1 : Int64) (a3 : Int64) (a5 : Int64) (a7 : Int64) (h : MH) : seg (C_M_fraction N) 11 0 rI T_M_fraction [0, 17] (fun q lv st h => match Nat.ble 18 q with
    | true => D_M_fraction N n q lv st h
    | false => B_M_fraction N n q lv st h) 400 true 17 [(0, .inr (.inr (0, 12, 68))), (1, .inr (.inl a1)), (3, .inr (.inl a3)), (5, .inr (.inl a5)), (7, .inr (.inl a7))] [] h = F_M_fraction_17 N (L_M_fraction N n) a1 a3 a5 a7 h := (rfl)
def T_M_isTray : List (List (Option RW)) := [
  [some (.iload_n 0, 1, [0], 0, 0), some (.ifCond .lt 12, 3, [13], 0, 0), none, none, some (.iload_n 0, 1, [0], 0, 0), some (.iconst 4, 1, [], 4, 0), some (.if_icmp .ge 7, 3, [13], 0, 0), none, none, some (.iconst 1, 1, [], 1, 0), some (.goto 4, 3, [14], 0, 0), none, none, some (.iconst 0, 1, [], 0, 0), some (.ireturn, 1, [], 0, 0)]]
def f_M_isTray (N : Nat) (a0 : Int32) (h : MH) : Option (Int32 × MH) :=
  if a0 < 0 then
  (some (0, h))
  else
  (if 4 ≤ a0 then
  (some (0, h))
  else
  (some (1, h)))
def C_M_isTray (N : Nat) : MC := (KDL, false, (fun _ => 0), jsB, (fun _ _ _ => none), (fun _ _ _ => none), (fun _ _ _ => none), (fun _ _ _ => none))
def D_M_isTray (N : Nat) (n pc : Nat) (lv : ML) (st : List MV) (h : MH) : Option (Int32 × MH) :=
  match Nat.beq pc 0 with
  | true => (match lk lv 0, st with
    | some (.inl a0), [] => f_M_isTray N a0 h
    | _, _ => none)
  | false => none
set_option maxRecDepth 1000000 in
theorem E_M_isTray_0 (N : Nat) (n : Nat) (a0 : Int32) (h : MH) : seg (C_M_isTray N) 1 1 rI T_M_isTray [0] (fun q lv st h => match Nat.ble 1 q with
    | true => D_M_isTray N n q lv st h
    | false => none) 400 true 0 [(0, .inl a0)] [] h = f_M_isTray N a0 h := (rfl)
def T_M_cut : List (List (Option RW)) := [
  [some (.iload_n 2, 1, [2], 0, 0), some (.ifCond .ne 10, 3, [11], 0, 0), none, none, some (.lload_n 0, 1, [0], 0, 0), some (.l2i, 1, [], 0, 0), some (.i2b, 1, [], 0, 0), some (.i2l, 1, [], 0, 0), some (.goto 27, 3, [35], 0, 0), none, none, some (.iload_n 2, 1, [2], 0, 0), some (.iconst 1, 1, [], 1, 0), some (.if_icmp .ne 10, 3, [23], 0, 0), none, none, some (.lload_n 0, 1, [0], 0, 0), some (.l2i, 1, [], 0, 0), some (.i2s, 1, [], 0, 0), some (.i2l, 1, [], 0, 0), some (.goto 15, 3, [35], 0, 0), none, none, some (.iload_n 2, 1, [2], 0, 0), some (.iconst 2, 1, [], 2, 0), some (.if_icmp .ne 9, 3, [34], 0, 0), none, none, some (.lload_n 0, 1, [0], 0, 0), some (.l2i, 1, [], 0, 0), some (.i2l, 1, [], 0, 0), some (.goto 4, 3, [35], 0, 0)],
  [none, none, some (.lload_n 0, 1, [0], 0, 0), some (.lreturn, 1, [], 0, 0)]]
def f_M_cut (N : Nat) (a0 : Int64) (a2 : Int32) (h : MH) : Option (Int64 × MH) :=
  if a2 = 0 then
  (some (((((Int64.toInt32 a0)).toInt8.toInt32)).toInt64, h))
  else
  (if a2 = 1 then
  (some (((((Int64.toInt32 a0)).toInt16.toInt32)).toInt64, h))
  else
  (if a2 = 2 then
  (some (((Int64.toInt32 a0)).toInt64, h))
  else
  (some (a0, h))))
def C_M_cut (N : Nat) : MC := (KDL, false, (fun _ => 0), jsB, (fun _ _ _ => none), (fun _ _ _ => none), (fun _ _ _ => none), (fun _ _ _ => none))
def D_M_cut (N : Nat) (n pc : Nat) (lv : ML) (st : List MV) (h : MH) : Option (Int64 × MH) :=
  match Nat.beq pc 0 with
  | true => (match lk lv 0, lk lv 2, st with
    | some (.inr (.inl a0)), some (.inl a2), [] => f_M_cut N a0 a2 h
    | _, _, _ => none)
  | false => none
set_option maxRecDepth 1000000 in
theorem E_M_cut_0 (N : Nat) (n : Nat) (a0 : Int64) (a2 : Int32) (h : MH) : seg (C_M_cut N) 3 0 rJ T_M_cut [0] (fun q lv st h => match Nat.ble 1 q with
    | true => D_M_cut N n q lv st h
    | false => none) 400 true 0 [(0, .inr (.inl a0)), (2, .inl a2)] [] h = f_M_cut N a0 a2 h := (rfl)
def T_M_tray : List (List (Option RW)) := [
  [some (.iload_n 1, 1, [1], 0, 0), some (.invokestatic 184, 3, [2, 171, 1, 0], 0, 0), none, none, some (.ifCond .eq 22, 3, [26], 0, 0), none, none, some (.iload_n 2, 1, [2], 0, 0), some (.ifCond .lt 18, 3, [26], 0, 0), none, none, some (.iload_n 2, 1, [2], 0, 0), some (.iconst 3, 1, [], 3, 0), some (.if_icmp .gt 13, 3, [26], 0, 0), none, none, some (.iload_n 3, 1, [3], 0, 0), some (.ifCond .lt 9, 3, [26], 0, 0), none, none, some (.iload_n 3, 1, [3], 0, 0), some (.bipush 60, 2, [], 60, 0), none, some (.if_icmp .le 9, 3, [32], 0, 0), none, none, some (.aload_n 0, 1, [0], 0, 0), some (.iconst 1, 1, [], 1, 0), some (.invokevirtual 188, 3, [0, 167, 2, 0], 0, 0), none, none, some (.ireturn, 1, [], 0, 0)],
  [some (.aload_n 0, 1, [0], 0, 0), some (.getfield 13, 3, [12, 3, 2, 1, 4, 1], 0, 0), none, none, some (.iload_n 1, 1, [1], 0, 0), some (.iload_n 2, 1, [2], 0, 0), some (.iastore, 1, [], 0, 0), some (.aload_n 0, 1, [0], 0, 0), some (.getfield 17, 3, [12, 4, 2, 1, 4, 2], 0, 0), none, none, some (.iload_n 1, 1, [1], 0, 0), some (.iload_n 3, 1, [3], 0, 0), some (.iastore, 1, [], 0, 0), some (.iconst 0, 1, [], 0, 0), some (.istore 4, 2, [4], 0, 0), none, some (.iload 4, 2, [4], 0, 0), none, some (.iload_n 3, 1, [3], 0, 0), some (.if_icmp .ge 22, 3, [74], 0, 0), none, none, some (.aload_n 0, 1, [0], 0, 0), some (.getfield 20, 3, [12, 5, 2, 2, 240, 3], 0, 0), none, none, some (.bipush 60, 2, [], 60, 0), none, some (.iload_n 1, 1, [1], 0, 0), some (.imul, 1, [], 0, 0), some (.iload 4, 2, [4], 0, 0)],
  [none, some (.iadd, 1, [], 0, 0), some (.lconst 0, 1, [], 0, 0), some (.lastore, 1, [], 0, 0), some (.iinc 4 1, 3, [4], 1, 0), none, none, some (.goto (-22), 3, [49], 0, 0), none, none, some (.aload_n 0, 1, [0], 0, 0), some (.iconst 0, 1, [], 0, 0), some (.invokevirtual 188, 3, [0, 167, 2, 0], 0, 0), none, none, some (.ireturn, 1, [], 0, 0)]]
def F_M_tray_49 (N : Nat) (bk : (Int32 → Int32 → Int32 → MH → Option (Int32 × MH))) (a1 : Int32) (a3 : Int32) (a4 : Int32) (h : MH) : Option (Int32 × MH) :=
  if a3 ≤ a4 then
  ((f_M_is N 0 h).bind (fun x9 =>
  match narOK 1 x9.1 with
  | true => some (x9.1, x9.2)
  | false => none))
  else
  (if inB ((60 * a1) + a4) 240 = true then
  (let h10 : MH := sJ h 71 (iN ((60 * a1) + a4)) 0
  let v11 : Int32 := a4 + 1
  bk a1 a3 v11 h10)
  else none)
def F_M_tray_0 (N : Nat) (bk : (Int32 → Int32 → Int32 → MH → Option (Int32 × MH))) (a1 : Int32) (a2 : Int32) (a3 : Int32) (h : MH) : Option (Int32 × MH) :=
  (f_M_isTray N a1 h).bind (fun x1 =>
  if x1.1 = 0 then
  ((f_M_is N 1 x1.2).bind (fun x2 =>
  match narOK 1 x2.1 with
  | true => some (x2.1, x2.2)
  | false => none))
  else
  (if a2 < 0 then
  ((f_M_is N 1 x1.2).bind (fun x3 =>
  match narOK 1 x3.1 with
  | true => some (x3.1, x3.2)
  | false => none))
  else
  (if 3 < a2 then
  ((f_M_is N 1 x1.2).bind (fun x4 =>
  match narOK 1 x4.1 with
  | true => some (x4.1, x4.2)
  | false => none))
  else
  (if a3 < 0 then
  ((f_M_is N 1 x1.2).bind (fun x5 =>
  match narOK 1 x5.1 with
  | true => some (x5.1, x5.2)
  | false => none))
  else
  (if a3 ≤ 60 then
  (if inB a1 4 = true then
  (let h6 : MH := sI x1.2 69 (iN a1) a2
  if inB a1 4 = true then
  (let h7 : MH := sI h6 70 (iN a1) a3
  F_M_tray_49 N bk a1 a3 0 h7)
  else none)
  else none)
  else
  ((f_M_is N 1 x1.2).bind (fun x8 =>
  match narOK 1 x8.1 with
  | true => some (x8.1, x8.2)
  | false => none)))))))
def L_M_tray (N : Nat) : Nat → (Int32 → Int32 → Int32 → MH → Option (Int32 × MH))
  | 0 => fun _ _ _ _ => none
  | n + 1 => F_M_tray_49 N (L_M_tray N n)
def f_M_tray (N : Nat) (a1 : Int32) (a2 : Int32) (a3 : Int32) (h : MH) : Option (Int32 × MH) := F_M_tray_0 N (L_M_tray N N) a1 a2 a3 h
def C_M_tray (N : Nat) : MC := (KDL, false, (fun _ => 0), jsB, (fun j => match Nat.beq j 167 with
    | true => w_M_is (f_M_is N)
    | false => match Nat.beq j 171 with
    | true => w_M_isTray (f_M_isTray N)
    | false => fun _ _ => none), (fun _ _ _ => none), (fun _ _ _ => none), (fun _ _ _ => none))
def D_M_tray (N : Nat) (n pc : Nat) (lv : ML) (st : List MV) (h : MH) : Option (Int32 × MH) :=
  match Nat.beq pc 0 with
  | true => (match lk lv 0, lk lv 1, lk lv 2, lk lv 3, st with
    | some (.inr (.inr (0, 12, 68))), some (.inl a1), some (.inl a2), some (.inl a3), [] => F_M_tray_0 N (L_M_tray N n) a1 a2 a3 h
    | _, _, _, _, _ => none)
  | false => match Nat.beq pc 49 with
  | true => (match lk lv 0, lk lv 1, lk lv 3, lk lv 4, st with
    | some (.inr (.inr (0, 12, 68))), some (.inl a1), some (.inl a3), some (.inl a4), [] => F_M_tray_49 N (L_M_tray N n) a1 a3 a4 h
    | _, _, _, _, _ => none)
  | false => none
def B_M_tray (N : Nat) (n pc : Nat) (lv : ML) (st : List MV) (h : MH) : Option (Int32 × MH) :=
  match Nat.beq pc 49 with
  | true => (match lk lv 0, lk lv 1, lk lv 3, lk lv 4, st with
    | some (.inr (.inr (0, 12, 68))), some (.inl a1), some (.inl a3), some (.inl a4), [] => ((L_M_tray N n)) a1 a3 a4 h
    | _, _, _, _, _ => none)
  | false => none
set_option maxRecDepth 1000000 in
theorem E_M_tray_0 (N : Nat) (n : Nat) (a1 : Int32) (a2 : Int32) (a3 : Int32) (h : MH) : seg (C_M_tray N) 5 1 rI T_M_tray [0, 49] (fun q lv st h => match Nat.ble 1 q with
    | true => D_M_tray N n q lv st h
    | false => B_M_tray N n q lv st h) 400 true 0 [(0, .inr (.inr (0, 12, 68))), (1, .inl a1), (2, .inl a2), (3, .inl a3)] [] h = F_M_tray_0 N (L_M_tray N n) a1 a2 a3 h := (rfl)
set_option maxRecDepth 1000000 in
theorem E_M_tray_49 (N : Nat) (n : Nat) (a1 : Int32) (a3 : Int32) (a4 : Int32) (h : MH) : seg (C_M_tray N) 5 1 rI T_M_tray [0, 49] (fun q lv st h => match Nat.ble 50 q with
    | true => D_M_tray N n q lv st h
    | false => B_M_tray N n q lv st h) 400 true 49 [(0, .inr (.inr (0, 12, 68))), (1, .inl a1), (3, .inl a3), (4, .inl a4)] [] h = F_M_tray_49 N (L_M_tray N n) a1 a3 a4 h := (rfl)
def T_M_wrongPlace : List (List (Option RW)) := [
  [some (.iload_n 1, 1, [1], 0, 0), some (.invokestatic 184, 3, [2, 171, 1, 0], 0, 0), none, none, some (.ifCond .ne 7, 3, [11], 0, 0), none, none, some (.iconst 1, 1, [], 1, 0), some (.goto 36, 3, [44], 0, 0), none, none, some (.aload_n 0, 1, [0], 0, 0), some (.getfield 17, 3, [12, 4, 2, 1, 4, 2], 0, 0), none, none, some (.iload_n 1, 1, [1], 0, 0), some (.iaload, 1, [], 0, 0), some (.iconst (-1), 1, [], (-1), 0), some (.if_icmp .ne 7, 3, [25], 0, 0), none, none, some (.iconst 2, 1, [], 2, 0), some (.goto 22, 3, [44], 0, 0), none, none, some (.iload_n 2, 1, [2], 0, 0), some (.ifCond .lt 13, 3, [39], 0, 0), none, none, some (.iload_n 2, 1, [2], 0, 0), some (.aload_n 0, 1, [0], 0, 0), some (.getfield 17, 3, [12, 4, 2, 1, 4, 2], 0, 0)],
  [none, none, some (.iload_n 1, 1, [1], 0, 0), some (.iaload, 1, [], 0, 0), some (.if_icmp .lt 7, 3, [43], 0, 0), none, none, some (.iconst 3, 1, [], 3, 0), some (.goto 4, 3, [44], 0, 0), none, none, some (.iconst 0, 1, [], 0, 0), some (.ireturn, 1, [], 0, 0)]]
def f_M_wrongPlace (N : Nat) (a1 : Int32) (a2 : Int32) (h : MH) : Option (Int32 × MH) :=
  (f_M_isTray N a1 h).bind (fun x1 =>
  if x1.1 = 0 then
  (some (1, x1.2))
  else
  (if inB a1 4 = true then
  (if (gI x1.2 70 (iN a1)) = ((-1)) then
  (some (2, x1.2))
  else
  (if a2 < 0 then
  (some (3, x1.2))
  else
  (if inB a1 4 = true then
  (if a2 < (gI x1.2 70 (iN a1)) then
  (some (0, x1.2))
  else
  (some (3, x1.2)))
  else none)))
  else none))
def C_M_wrongPlace (N : Nat) : MC := (KDL, false, (fun _ => 0), jsB, (fun j => match Nat.beq j 171 with
    | true => w_M_isTray (f_M_isTray N)
    | false => fun _ _ => none), (fun _ _ _ => none), (fun _ _ _ => none), (fun _ _ _ => none))
def D_M_wrongPlace (N : Nat) (n pc : Nat) (lv : ML) (st : List MV) (h : MH) : Option (Int32 × MH) :=
  match Nat.beq pc 0 with
  | true => (match lk lv 0, lk lv 1, lk lv 2, st with
    | some (.inr (.inr (0, 12, 68))), some (.inl a1), some (.inl a2), [] => f_M_wrongPlace N a1 a2 h
    | _, _, _, _ => none)
  | false => none
set_option maxRecDepth 1000000 in
theorem E_M_wrongPlace_0 (N : Nat) (n : Nat) (a1 : Int32) (a2 : Int32) (h : MH) : seg (C_M_wrongPlace N) 3 0 rI T_M_wrongPlace [0] (fun q lv st h => match Nat.ble 1 q with
    | true => D_M_wrongPlace N n q lv st h
    | false => none) 400 true 0 [(0, .inr (.inr (0, 12, 68))), (1, .inl a1), (2, .inl a2)] [] h = f_M_wrongPlace N a1 a2 h := (rfl)
def T_M_write : List (List (Option RW)) := [
  [some (.aload_n 0, 1, [0], 0, 0), some (.iload_n 1, 1, [1], 0, 0), some (.iload_n 2, 1, [2], 0, 0), some (.invokevirtual 191, 3, [0, 174, 3, 0], 0, 0), none, none, some (.istore 5, 2, [5], 0, 0), none, some (.iload 5, 2, [5], 0, 0), none, some (.ifCond .ne 24, 3, [34], 0, 0), none, none, some (.aload_n 0, 1, [0], 0, 0), some (.getfield 20, 3, [12, 5, 2, 2, 240, 3], 0, 0), none, none, some (.bipush 60, 2, [], 60, 0), none, some (.iload_n 1, 1, [1], 0, 0), some (.imul, 1, [], 0, 0), some (.iload_n 2, 1, [2], 0, 0), some (.iadd, 1, [], 0, 0), some (.lload_n 3, 1, [3], 0, 0), some (.aload_n 0, 1, [0], 0, 0), some (.getfield 13, 3, [12, 3, 2, 1, 4, 1], 0, 0), none, none, some (.iload_n 1, 1, [1], 0, 0), some (.iaload, 1, [], 0, 0), some (.invokestatic 195, 3, [2, 172, 2, 1], 0, 0), none],
  [none, some (.lastore, 1, [], 0, 0), some (.aload_n 0, 1, [0], 0, 0), some (.iload 5, 2, [5], 0, 0), none, some (.invokevirtual 188, 3, [0, 167, 2, 0], 0, 0), none, none, some (.ireturn, 1, [], 0, 0)]]
def f_M_write (N : Nat) (a1 : Int32) (a2 : Int32) (a3 : Int64) (h : MH) : Option (Int32 × MH) :=
  (f_M_wrongPlace N a1 a2 h).bind (fun x1 =>
  if x1.1 = 0 then
  (if inB a1 4 = true then
  ((f_M_cut N a3 (gI x1.2 69 (iN a1)) x1.2).bind (fun x2 =>
  if inB ((60 * a1) + a2) 240 = true then
  (let h3 : MH := sJ x2.2 71 (iN ((60 * a1) + a2)) x2.1
  (f_M_is N x1.1 h3).bind (fun x4 =>
  match narOK 1 x4.1 with
  | true => some (x4.1, x4.2)
  | false => none))
  else none))
  else none)
  else
  ((f_M_is N x1.1 x1.2).bind (fun x5 =>
  match narOK 1 x5.1 with
  | true => some (x5.1, x5.2)
  | false => none)))
def C_M_write (N : Nat) : MC := (KDL, false, (fun _ => 0), jsB, (fun j => match Nat.beq j 167 with
    | true => w_M_is (f_M_is N)
    | false => match Nat.beq j 174 with
    | true => w_M_wrongPlace (f_M_wrongPlace N)
    | false => fun _ _ => none), (fun j => match Nat.beq j 172 with
    | true => w_M_cut (f_M_cut N)
    | false => fun _ _ => none), (fun _ _ _ => none), (fun _ _ _ => none))
def D_M_write (N : Nat) (n pc : Nat) (lv : ML) (st : List MV) (h : MH) : Option (Int32 × MH) :=
  match Nat.beq pc 0 with
  | true => (match lk lv 0, lk lv 1, lk lv 2, lk lv 3, st with
    | some (.inr (.inr (0, 12, 68))), some (.inl a1), some (.inl a2), some (.inr (.inl a3)), [] => f_M_write N a1 a2 a3 h
    | _, _, _, _, _ => none)
  | false => none
set_option maxRecDepth 1000000 in
theorem E_M_write_0 (N : Nat) (n : Nat) (a1 : Int32) (a2 : Int32) (a3 : Int64) (h : MH) : seg (C_M_write N) 6 1 rI T_M_write [0] (fun q lv st h => match Nat.ble 1 q with
    | true => D_M_write N n q lv st h
    | false => none) 400 true 0 [(0, .inr (.inr (0, 12, 68))), (1, .inl a1), (2, .inl a2), (3, .inr (.inl a3))] [] h = f_M_write N a1 a2 a3 h := (rfl)
def T_M_read : List (List (Option RW)) := [
  [some (.aload_n 0, 1, [0], 0, 0), some (.aload_n 0, 1, [0], 0, 0), some (.iload_n 1, 1, [1], 0, 0), some (.iload_n 2, 1, [2], 0, 0), some (.invokevirtual 191, 3, [0, 174, 3, 0], 0, 0), none, none, some (.putfield 174, 3, [12, 0, 0], 0, 0), none, none, some (.aload_n 0, 1, [0], 0, 0), some (.getfield 174, 3, [12, 0, 0], 0, 0), none, none, some (.ifCond .le 9, 3, [23], 0, 0), none, none, some (.ldc2_w 199, 3, [], 0, (-1)), none, none, some (.goto 14, 3, [34], 0, 0), none, none, some (.aload_n 0, 1, [0], 0, 0), some (.getfield 20, 3, [12, 5, 2, 2, 240, 3], 0, 0), none, none, some (.bipush 60, 2, [], 60, 0), none, some (.iload_n 1, 1, [1], 0, 0), some (.imul, 1, [], 0, 0), some (.iload_n 2, 1, [2], 0, 0)],
  [some (.iadd, 1, [], 0, 0), some (.laload, 1, [], 0, 0), some (.lreturn, 1, [], 0, 0)]]
def f_M_read (N : Nat) (a1 : Int32) (a2 : Int32) (h : MH) : Option (Int64 × MH) :=
  (f_M_wrongPlace N a1 a2 h).bind (fun x1 =>
  let h2 : MH := sI x1.2 68 0 x1.1
  if (gI h2 68 0) ≤ 0 then
  (if inB ((60 * a1) + a2) 240 = true then
  (some (gJ h2 71 (iN ((60 * a1) + a2)), h2))
  else none)
  else
  (some ((-1), h2)))
def C_M_read (N : Nat) : MC := (KDL, false, (fun _ => 0), jsB, (fun j => match Nat.beq j 174 with
    | true => w_M_wrongPlace (f_M_wrongPlace N)
    | false => fun _ _ => none), (fun _ _ _ => none), (fun _ _ _ => none), (fun _ _ _ => none))
def D_M_read (N : Nat) (n pc : Nat) (lv : ML) (st : List MV) (h : MH) : Option (Int64 × MH) :=
  match Nat.beq pc 0 with
  | true => (match lk lv 0, lk lv 1, lk lv 2, st with
    | some (.inr (.inr (0, 12, 68))), some (.inl a1), some (.inl a2), [] => f_M_read N a1 a2 h
    | _, _, _, _ => none)
  | false => none
set_option maxRecDepth 1000000 in
theorem E_M_read_0 (N : Nat) (n : Nat) (a1 : Int32) (a2 : Int32) (h : MH) : seg (C_M_read N) 3 0 rJ T_M_read [0] (fun q lv st h => match Nat.ble 1 q with
    | true => D_M_read N n q lv st h
    | false => none) 400 true 0 [(0, .inr (.inr (0, 12, 68))), (1, .inl a1), (2, .inl a2)] [] h = f_M_read N a1 a2 h := (rfl)
def T_M_pour : List (List (Option RW)) := [
  [some (.iload_n 1, 1, [1], 0, 0), some (.invokestatic 184, 3, [2, 171, 1, 0], 0, 0), none, none, some (.ifCond .eq 24, 3, [28], 0, 0), none, none, some (.iload_n 3, 1, [3], 0, 0), some (.invokestatic 184, 3, [2, 171, 1, 0], 0, 0), none, none, some (.ifCond .eq 17, 3, [28], 0, 0), none, none, some (.iload_n 2, 1, [2], 0, 0), some (.ifCond .lt 13, 3, [28], 0, 0), none, none, some (.iload 4, 2, [4], 0, 0), none, some (.ifCond .lt 8, 3, [28], 0, 0), none, none, some (.iload 5, 2, [5], 0, 0), none, some (.ifCond .ge 9, 3, [34], 0, 0), none, none, some (.aload_n 0, 1, [0], 0, 0), some (.iconst 1, 1, [], 1, 0), some (.invokevirtual 188, 3, [0, 167, 2, 0], 0, 0), none],
  [none, some (.ireturn, 1, [], 0, 0), some (.aload_n 0, 1, [0], 0, 0), some (.getfield 17, 3, [12, 4, 2, 1, 4, 2], 0, 0), none, none, some (.iload_n 1, 1, [1], 0, 0), some (.iaload, 1, [], 0, 0), some (.iconst (-1), 1, [], (-1), 0), some (.if_icmp .eq 13, 3, [54], 0, 0), none, none, some (.aload_n 0, 1, [0], 0, 0), some (.getfield 17, 3, [12, 4, 2, 1, 4, 2], 0, 0), none, none, some (.iload_n 3, 1, [3], 0, 0), some (.iaload, 1, [], 0, 0), some (.iconst (-1), 1, [], (-1), 0), some (.if_icmp .ne 9, 3, [60], 0, 0), none, none, some (.aload_n 0, 1, [0], 0, 0), some (.iconst 2, 1, [], 2, 0), some (.invokevirtual 188, 3, [0, 167, 2, 0], 0, 0), none, none, some (.ireturn, 1, [], 0, 0), some (.aload_n 0, 1, [0], 0, 0), some (.getfield 13, 3, [12, 3, 2, 1, 4, 1], 0, 0), none, none],
  [some (.iload_n 1, 1, [1], 0, 0), some (.iaload, 1, [], 0, 0), some (.aload_n 0, 1, [0], 0, 0), some (.getfield 13, 3, [12, 3, 2, 1, 4, 1], 0, 0), none, none, some (.iload_n 3, 1, [3], 0, 0), some (.iaload, 1, [], 0, 0), some (.if_icmp .eq 10, 3, [82], 0, 0), none, none, some (.aload_n 0, 1, [0], 0, 0), some (.bipush 8, 2, [], 8, 0), none, some (.invokevirtual 188, 3, [0, 167, 2, 0], 0, 0), none, none, some (.ireturn, 1, [], 0, 0), some (.iload 5, 2, [5], 0, 0), none, some (.aload_n 0, 1, [0], 0, 0), some (.getfield 17, 3, [12, 4, 2, 1, 4, 2], 0, 0), none, none, some (.iload_n 1, 1, [1], 0, 0), some (.iaload, 1, [], 0, 0), some (.iload_n 2, 1, [2], 0, 0), some (.isub, 1, [], 0, 0), some (.if_icmp .gt 17, 3, [109], 0, 0), none, none, some (.iload 5, 2, [5], 0, 0)],
  [none, some (.aload_n 0, 1, [0], 0, 0), some (.getfield 17, 3, [12, 4, 2, 1, 4, 2], 0, 0), none, none, some (.iload_n 3, 1, [3], 0, 0), some (.iaload, 1, [], 0, 0), some (.iload 4, 2, [4], 0, 0), none, some (.isub, 1, [], 0, 0), some (.if_icmp .le 9, 3, [115], 0, 0), none, none, some (.aload_n 0, 1, [0], 0, 0), some (.iconst 3, 1, [], 3, 0), some (.invokevirtual 188, 3, [0, 167, 2, 0], 0, 0), none, none, some (.ireturn, 1, [], 0, 0), some (.iconst 0, 1, [], 0, 0), some (.istore 6, 2, [6], 0, 0), none, some (.iload 6, 2, [6], 0, 0), none, some (.iload 5, 2, [5], 0, 0), none, some (.if_icmp .ge 58, 3, [180], 0, 0), none, none, some (.iload_n 2, 1, [2], 0, 0), some (.iload 4, 2, [4], 0, 0), none],
  [some (.if_icmp .ge 13, 3, [141], 0, 0), none, none, some (.iload 5, 2, [5], 0, 0), none, some (.iconst 1, 1, [], 1, 0), some (.isub, 1, [], 0, 0), some (.iload 6, 2, [6], 0, 0), none, some (.isub, 1, [], 0, 0), some (.goto 5, 3, [143], 0, 0), none, none, some (.iload 6, 2, [6], 0, 0), none, some (.istore 7, 2, [7], 0, 0), none, some (.aload_n 0, 1, [0], 0, 0), some (.getfield 20, 3, [12, 5, 2, 2, 240, 3], 0, 0), none, none, some (.bipush 60, 2, [], 60, 0), none, some (.iload_n 3, 1, [3], 0, 0), some (.imul, 1, [], 0, 0), some (.iload 4, 2, [4], 0, 0), none, some (.iadd, 1, [], 0, 0), some (.iload 7, 2, [7], 0, 0), none, some (.iadd, 1, [], 0, 0), some (.aload_n 0, 1, [0], 0, 0)],
  [some (.getfield 20, 3, [12, 5, 2, 2, 240, 3], 0, 0), none, none, some (.bipush 60, 2, [], 60, 0), none, some (.iload_n 1, 1, [1], 0, 0), some (.imul, 1, [], 0, 0), some (.iload_n 2, 1, [2], 0, 0), some (.iadd, 1, [], 0, 0), some (.iload 7, 2, [7], 0, 0), none, some (.iadd, 1, [], 0, 0), some (.laload, 1, [], 0, 0), some (.lastore, 1, [], 0, 0), some (.iinc 6 1, 3, [6], 1, 0), none, none, some (.goto (-59), 3, [118], 0, 0), none, none, some (.aload_n 0, 1, [0], 0, 0), some (.iconst 0, 1, [], 0, 0), some (.invokevirtual 188, 3, [0, 167, 2, 0], 0, 0), none, none, some (.ireturn, 1, [], 0, 0)]]
def F_M_pour_143 (N : Nat) (bk : (Int32 → Int32 → Int32 → Int32 → Int32 → Int32 → MH → Option (Int32 × MH))) (a1 : Int32) (a2 : Int32) (a3 : Int32) (a4 : Int32) (a5 : Int32) (a6 : Int32) (as0 : Int32) (h : MH) : Option (Int32 × MH) :=
  if inB (((60 * a1) + a2) + as0) 240 = true then
  (if inB (((60 * a3) + a4) + as0) 240 = true then
  (let h14 : MH := sJ h 71 (iN (((60 * a3) + a4) + as0)) (gJ h 71 (iN (((60 * a1) + a2) + as0)))
  let v15 : Int32 := a6 + 1
  bk a1 a2 a3 a4 a5 v15 h14)
  else none)
  else none
def F_M_pour_118 (N : Nat) (bk : (Int32 → Int32 → Int32 → Int32 → Int32 → Int32 → MH → Option (Int32 × MH))) (a1 : Int32) (a2 : Int32) (a3 : Int32) (a4 : Int32) (a5 : Int32) (a6 : Int32) (h : MH) : Option (Int32 × MH) :=
  if a5 ≤ a6 then
  ((f_M_is N 0 h).bind (fun x13 =>
  match narOK 1 x13.1 with
  | true => some (x13.1, x13.2)
  | false => none))
  else
  (if a4 ≤ a2 then
  (F_M_pour_143 N bk a1 a2 a3 a4 a5 a6 a6 h)
  else
  (F_M_pour_143 N bk a1 a2 a3 a4 a5 a6 ((a5 - 1) - a6) h))
def F_M_pour_0 (N : Nat) (bk : (Int32 → Int32 → Int32 → Int32 → Int32 → Int32 → MH → Option (Int32 × MH))) (a1 : Int32) (a2 : Int32) (a3 : Int32) (a4 : Int32) (a5 : Int32) (h : MH) : Option (Int32 × MH) :=
  (f_M_isTray N a1 h).bind (fun x1 =>
  if x1.1 = 0 then
  ((f_M_is N 1 x1.2).bind (fun x2 =>
  match narOK 1 x2.1 with
  | true => some (x2.1, x2.2)
  | false => none))
  else
  ((f_M_isTray N a3 x1.2).bind (fun x3 =>
  if x3.1 = 0 then
  ((f_M_is N 1 x3.2).bind (fun x4 =>
  match narOK 1 x4.1 with
  | true => some (x4.1, x4.2)
  | false => none))
  else
  (if a2 < 0 then
  ((f_M_is N 1 x3.2).bind (fun x5 =>
  match narOK 1 x5.1 with
  | true => some (x5.1, x5.2)
  | false => none))
  else
  (if a4 < 0 then
  ((f_M_is N 1 x3.2).bind (fun x6 =>
  match narOK 1 x6.1 with
  | true => some (x6.1, x6.2)
  | false => none))
  else
  (if 0 ≤ a5 then
  (if inB a1 4 = true then
  (if (gI x3.2 70 (iN a1)) = ((-1)) then
  ((f_M_is N 2 x3.2).bind (fun x7 =>
  match narOK 1 x7.1 with
  | true => some (x7.1, x7.2)
  | false => none))
  else
  (if inB a3 4 = true then
  (if (gI x3.2 70 (iN a3)) = ((-1)) then
  ((f_M_is N 2 x3.2).bind (fun x8 =>
  match narOK 1 x8.1 with
  | true => some (x8.1, x8.2)
  | false => none))
  else
  (if inB a1 4 = true then
  (if inB a3 4 = true then
  (if (gI x3.2 69 (iN a1)) = (gI x3.2 69 (iN a3)) then
  (if inB a1 4 = true then
  (if ((gI x3.2 70 (iN a1)) - a2) < a5 then
  ((f_M_is N 3 x3.2).bind (fun x9 =>
  match narOK 1 x9.1 with
  | true => some (x9.1, x9.2)
  | false => none))
  else
  (if inB a3 4 = true then
  (if a5 ≤ ((gI x3.2 70 (iN a3)) - a4) then
  (F_M_pour_118 N bk a1 a2 a3 a4 a5 0 x3.2)
  else
  ((f_M_is N 3 x3.2).bind (fun x10 =>
  match narOK 1 x10.1 with
  | true => some (x10.1, x10.2)
  | false => none)))
  else none))
  else none)
  else
  ((f_M_is N 8 x3.2).bind (fun x11 =>
  match narOK 1 x11.1 with
  | true => some (x11.1, x11.2)
  | false => none)))
  else none)
  else none))
  else none))
  else none)
  else
  ((f_M_is N 1 x3.2).bind (fun x12 =>
  match narOK 1 x12.1 with
  | true => some (x12.1, x12.2)
  | false => none))))))))
def L_M_pour (N : Nat) : Nat → (Int32 → Int32 → Int32 → Int32 → Int32 → Int32 → MH → Option (Int32 × MH))
  | 0 => fun _ _ _ _ _ _ _ => none
  | n + 1 => F_M_pour_118 N (L_M_pour N n)
def f_M_pour (N : Nat) (a1 : Int32) (a2 : Int32) (a3 : Int32) (a4 : Int32) (a5 : Int32) (h : MH) : Option (Int32 × MH) := F_M_pour_0 N (L_M_pour N N) a1 a2 a3 a4 a5 h
def C_M_pour (N : Nat) : MC := (KDL, false, (fun _ => 0), jsB, (fun j => match Nat.beq j 167 with
    | true => w_M_is (f_M_is N)
    | false => match Nat.beq j 171 with
    | true => w_M_isTray (f_M_isTray N)
    | false => fun _ _ => none), (fun _ _ _ => none), (fun _ _ _ => none), (fun _ _ _ => none))
def D_M_pour (N : Nat) (n pc : Nat) (lv : ML) (st : List MV) (h : MH) : Option (Int32 × MH) :=
  match Nat.beq pc 0 with
  | true => (match lk lv 0, lk lv 1, lk lv 2, lk lv 3, lk lv 4, lk lv 5, st with
    | some (.inr (.inr (0, 12, 68))), some (.inl a1), some (.inl a2), some (.inl a3), some (.inl a4), some (.inl a5), [] => F_M_pour_0 N (L_M_pour N n) a1 a2 a3 a4 a5 h
    | _, _, _, _, _, _, _ => none)
  | false => match Nat.beq pc 118 with
  | true => (match lk lv 0, lk lv 1, lk lv 2, lk lv 3, lk lv 4, lk lv 5, lk lv 6, st with
    | some (.inr (.inr (0, 12, 68))), some (.inl a1), some (.inl a2), some (.inl a3), some (.inl a4), some (.inl a5), some (.inl a6), [] => F_M_pour_118 N (L_M_pour N n) a1 a2 a3 a4 a5 a6 h
    | _, _, _, _, _, _, _, _ => none)
  | false => match Nat.beq pc 143 with
  | true => (match lk lv 0, lk lv 1, lk lv 2, lk lv 3, lk lv 4, lk lv 5, lk lv 6, st with
    | some (.inr (.inr (0, 12, 68))), some (.inl a1), some (.inl a2), some (.inl a3), some (.inl a4), some (.inl a5), some (.inl a6), [.inl as0] => F_M_pour_143 N (L_M_pour N n) a1 a2 a3 a4 a5 a6 as0 h
    | _, _, _, _, _, _, _, _ => none)
  | false => none
def B_M_pour (N : Nat) (n pc : Nat) (lv : ML) (st : List MV) (h : MH) : Option (Int32 × MH) :=
  match Nat.beq pc 118 with
  | true => (match lk lv 0, lk lv 1, lk lv 2, lk lv 3, lk lv 4, lk lv 5, lk lv 6, st with
    | some (.inr (.inr (0, 12, 68))), some (.inl a1), some (.inl a2), some (.inl a3), some (.inl a4), some (.inl a5), some (.inl a6), [] => ((L_M_pour N n)) a1 a2 a3 a4 a5 a6 h
    | _, _, _, _, _, _, _, _ => none)
  | false => none
set_option maxRecDepth 1000000 in
theorem E_M_pour_0 (N : Nat) (n : Nat) (a1 : Int32) (a2 : Int32) (a3 : Int32) (a4 : Int32) (a5 : Int32) (h : MH) : seg (C_M_pour N) 8 1 rI T_M_pour [0, 118, 143] (fun q lv st h => match Nat.ble 1 q with
    | true => D_M_pour N n q lv st h
    | false => B_M_pour N n q lv st h) 400 true 0 [(0, .inr (.inr (0, 12, 68))), (1, .inl a1), (2, .inl a2), (3, .inl a3), (4, .inl a4), (5, .inl a5)] [] h = F_M_pour_0 N (L_M_pour N n) a1 a2 a3 a4 a5 h := (rfl)
set_option maxRecDepth 1000000 in
theorem E_M_pour_118 (N : Nat) (n : Nat) (a1 : Int32) (a2 : Int32) (a3 : Int32) (a4 : Int32) (a5 : Int32) (a6 : Int32) (h : MH) : seg (C_M_pour N) 8 1 rI T_M_pour [0, 118, 143] (fun q lv st h => match Nat.ble 119 q with
    | true => D_M_pour N n q lv st h
    | false => B_M_pour N n q lv st h) 400 true 118 [(0, .inr (.inr (0, 12, 68))), (1, .inl a1), (2, .inl a2), (3, .inl a3), (4, .inl a4), (5, .inl a5), (6, .inl a6)] [] h = F_M_pour_118 N (L_M_pour N n) a1 a2 a3 a4 a5 a6 h := (rfl)
set_option maxRecDepth 1000000 in
theorem E_M_pour_143 (N : Nat) (n : Nat) (a1 : Int32) (a2 : Int32) (a3 : Int32) (a4 : Int32) (a5 : Int32) (a6 : Int32) (as0 : Int32) (h : MH) : seg (C_M_pour N) 8 1 rI T_M_pour [0, 118, 143] (fun q lv st h => match Nat.ble 144 q with
    | true => D_M_pour N n q lv st h
    | false => B_M_pour N n q lv st h) 400 true 143 [(0, .inr (.inr (0, 12, 68))), (1, .inl a1), (2, .inl a2), (3, .inl a3), (4, .inl a4), (5, .inl a5), (6, .inl a6)] [.inl as0] h = F_M_pour_143 N (L_M_pour N n) a1 a2 a3 a4 a5 a6 as0 h := (rfl)
def T_M_four : List (List (Option RW)) := [
  [some (.bipush 24, 2, [], 24, 0), none, some (.istore_n 2, 1, [2], 0, 0), some (.iload_n 2, 1, [2], 0, 0), some (.ifCond .lt 32, 3, [36], 0, 0), none, none, some (.aload_n 0, 1, [0], 0, 0), some (.getfield 24, 3, [12, 6, 2, 3, 600, 4], 0, 0), none, none, some (.aload_n 0, 1, [0], 0, 0), some (.getfield 201, 3, [12, 8, 0], 0, 0), none, none, some (.iload_n 1, 1, [1], 0, 0), some (.iload_n 2, 1, [2], 0, 0), some (.ishr, 1, [], 0, 0), some (.i2b, 1, [], 0, 0), some (.bastore, 1, [], 0, 0), some (.aload_n 0, 1, [0], 0, 0), some (.dup, 1, [], 0, 0), some (.getfield 201, 3, [12, 8, 0], 0, 0), none, none, some (.iconst 1, 1, [], 1, 0), some (.iadd, 1, [], 0, 0), some (.putfield 201, 3, [12, 8, 0], 0, 0), none, none, some (.iinc 2 (-8), 3, [2], (-8), 0), none],
  [none, some (.goto (-30), 3, [3], 0, 0), none, none, some (.return_, 1, [], 0, 0)]]
def F_M_four_3 (N : Nat) (bk : (Int32 → Int32 → MH → Option (MH))) (a1 : Int32) (a2 : Int32) (h : MH) : Option (MH) :=
  if a2 < 0 then
  (some h)
  else
  (if inB (gI h 68 8) 600 = true then
  (let h1 : MH := sI h 72 (iN (gI h 68 8)) (((a1 >>> (a2 &&& 31))).toInt8.toInt32).toInt8.toInt32
  let h2 : MH := sI h1 68 8 ((gI h1 68 8) + 1)
  let v3 : Int32 := a2 + (-8)
  bk a1 v3 h2)
  else none)
def F_M_four_0 (N : Nat) (bk : (Int32 → Int32 → MH → Option (MH))) (a1 : Int32) (h : MH) : Option (MH) :=
  F_M_four_3 N bk a1 24 h
def L_M_four (N : Nat) : Nat → (Int32 → Int32 → MH → Option (MH))
  | 0 => fun _ _ _ => none
  | n + 1 => F_M_four_3 N (L_M_four N n)
def f_M_four (N : Nat) (a1 : Int32) (h : MH) : Option (MH) := F_M_four_0 N (L_M_four N N) a1 h
def C_M_four (N : Nat) : MC := (KDL, false, (fun _ => 0), jsB, (fun _ _ _ => none), (fun _ _ _ => none), (fun _ _ _ => none), (fun _ _ _ => none))
def D_M_four (N : Nat) (n pc : Nat) (lv : ML) (st : List MV) (h : MH) : Option (MH) :=
  match Nat.beq pc 0 with
  | true => (match lk lv 0, lk lv 1, st with
    | some (.inr (.inr (0, 12, 68))), some (.inl a1), [] => F_M_four_0 N (L_M_four N n) a1 h
    | _, _, _ => none)
  | false => match Nat.beq pc 3 with
  | true => (match lk lv 0, lk lv 1, lk lv 2, st with
    | some (.inr (.inr (0, 12, 68))), some (.inl a1), some (.inl a2), [] => F_M_four_3 N (L_M_four N n) a1 a2 h
    | _, _, _, _ => none)
  | false => none
def B_M_four (N : Nat) (n pc : Nat) (lv : ML) (st : List MV) (h : MH) : Option (MH) :=
  match Nat.beq pc 3 with
  | true => (match lk lv 0, lk lv 1, lk lv 2, st with
    | some (.inr (.inr (0, 12, 68))), some (.inl a1), some (.inl a2), [] => ((L_M_four N n)) a1 a2 h
    | _, _, _, _ => none)
  | false => none
set_option maxRecDepth 1000000 in
theorem E_M_four_0 (N : Nat) (n : Nat) (a1 : Int32) (h : MH) : seg (C_M_four N) 3 0 rV T_M_four [0, 3] (fun q lv st h => match Nat.ble 1 q with
    | true => D_M_four N n q lv st h
    | false => B_M_four N n q lv st h) 400 true 0 [(0, .inr (.inr (0, 12, 68))), (1, .inl a1)] [] h = F_M_four_0 N (L_M_four N n) a1 h := (rfl)
set_option maxRecDepth 1000000 in
theorem E_M_four_3 (N : Nat) (n : Nat) (a1 : Int32) (a2 : Int32) (h : MH) : seg (C_M_four N) 3 0 rV T_M_four [0, 3] (fun q lv st h => match Nat.ble 4 q with
    | true => D_M_four N n q lv st h
    | false => B_M_four N n q lv st h) 400 true 3 [(0, .inr (.inr (0, 12, 68))), (1, .inl a1), (2, .inl a2)] [] h = F_M_four_3 N (L_M_four N n) a1 a2 h := (rfl)
def T_M_feed : List (List (Option RW)) := [
  [some (.aload_n 0, 1, [0], 0, 0), some (.getfield 201, 3, [12, 8, 0], 0, 0), none, none, some (.bipush 20, 2, [], 20, 0), none, some (.iadd, 1, [], 0, 0), some (.sipush 600, 3, [], 600, 0), none, none, some (.if_icmp .le 5, 3, [15], 0, 0), none, none, some (.iconst (-1), 1, [], (-1), 0), some (.ireturn, 1, [], 0, 0), some (.aload_n 0, 1, [0], 0, 0), some (.iload_n 1, 1, [1], 0, 0), some (.invokevirtual 204, 3, [0, 179, 2, 3], 0, 0), none, none, some (.aload_n 0, 1, [0], 0, 0), some (.iload_n 2, 1, [2], 0, 0), some (.invokevirtual 204, 3, [0, 179, 2, 3], 0, 0), none, none, some (.aload_n 0, 1, [0], 0, 0), some (.iload_n 3, 1, [3], 0, 0), some (.invokevirtual 204, 3, [0, 179, 2, 3], 0, 0), none, none, some (.aload_n 0, 1, [0], 0, 0), some (.iload 4, 2, [4], 0, 0)],
  [none, some (.invokevirtual 204, 3, [0, 179, 2, 3], 0, 0), none, none, some (.aload_n 0, 1, [0], 0, 0), some (.iload 5, 2, [5], 0, 0), none, some (.invokevirtual 204, 3, [0, 179, 2, 3], 0, 0), none, none, some (.aload_n 0, 1, [0], 0, 0), some (.getfield 201, 3, [12, 8, 0], 0, 0), none, none, some (.ireturn, 1, [], 0, 0)]]
def f_M_feed (N : Nat) (a1 : Int32) (a2 : Int32) (a3 : Int32) (a4 : Int32) (a5 : Int32) (h : MH) : Option (Int32 × MH) :=
  if ((gI h 68 8) + 20) ≤ 600 then
  ((f_M_four N a1 h).bind (fun x1 =>
  (f_M_four N a2 x1).bind (fun x2 =>
  (f_M_four N a3 x2).bind (fun x3 =>
  (f_M_four N a4 x3).bind (fun x4 =>
  (f_M_four N a5 x4).bind (fun x5 =>
  some (gI x5 68 8, x5)))))))
  else
  (some ((-1), h))
def C_M_feed (N : Nat) : MC := (KDL, false, (fun _ => 0), jsB, (fun _ _ _ => none), (fun _ _ _ => none), (fun _ _ _ => none), (fun j => match Nat.beq j 179 with
    | true => w_M_four (f_M_four N)
    | false => fun _ _ => none))
def D_M_feed (N : Nat) (n pc : Nat) (lv : ML) (st : List MV) (h : MH) : Option (Int32 × MH) :=
  match Nat.beq pc 0 with
  | true => (match lk lv 0, lk lv 1, lk lv 2, lk lv 3, lk lv 4, lk lv 5, st with
    | some (.inr (.inr (0, 12, 68))), some (.inl a1), some (.inl a2), some (.inl a3), some (.inl a4), some (.inl a5), [] => f_M_feed N a1 a2 a3 a4 a5 h
    | _, _, _, _, _, _, _ => none)
  | false => none
set_option maxRecDepth 1000000 in
theorem E_M_feed_0 (N : Nat) (n : Nat) (a1 : Int32) (a2 : Int32) (a3 : Int32) (a4 : Int32) (a5 : Int32) (h : MH) : seg (C_M_feed N) 6 0 rI T_M_feed [0] (fun q lv st h => match Nat.ble 1 q with
    | true => D_M_feed N n q lv st h
    | false => none) 400 true 0 [(0, .inr (.inr (0, 12, 68))), (1, .inl a1), (2, .inl a2), (3, .inl a3), (4, .inl a4), (5, .inl a5)] [] h = f_M_feed N a1 a2 a3 a4 a5 h := (rfl)
def T_M_at : List (List (Option RW)) := [
  [some (.iload_n 1, 1, [1], 0, 0), some (.aload_n 0, 1, [0], 0, 0), some (.getfield 208, 3, [12, 9, 0], 0, 0), none, none, some (.if_icmp .ge 16, 3, [21], 0, 0), none, none, some (.aload_n 0, 1, [0], 0, 0), some (.getfield 28, 3, [12, 7, 2, 3, 600, 5], 0, 0), none, none, some (.iload_n 1, 1, [1], 0, 0), some (.baload, 1, [], 0, 0), some (.sipush 255, 3, [], 255, 0), none, none, some (.iand, 1, [], 0, 0), some (.goto 4, 3, [22], 0, 0), none, none, some (.iconst (-1), 1, [], (-1), 0), some (.ireturn, 1, [], 0, 0)]]
def f_M_at (N : Nat) (a1 : Int32) (h : MH) : Option (Int32 × MH) :=
  if (gI h 68 9) ≤ a1 then
  (some ((-1), h))
  else
  (if inB a1 600 = true then
  (some ((gI h 73 (iN a1)) &&& 255, h))
  else none)
def C_M_at (N : Nat) : MC := (KDL, false, (fun _ => 0), jsB, (fun _ _ _ => none), (fun _ _ _ => none), (fun _ _ _ => none), (fun _ _ _ => none))
def D_M_at (N : Nat) (n pc : Nat) (lv : ML) (st : List MV) (h : MH) : Option (Int32 × MH) :=
  match Nat.beq pc 0 with
  | true => (match lk lv 0, lk lv 1, st with
    | some (.inr (.inr (0, 12, 68))), some (.inl a1), [] => f_M_at N a1 h
    | _, _, _ => none)
  | false => none
set_option maxRecDepth 1000000 in
theorem E_M_at_0 (N : Nat) (n : Nat) (a1 : Int32) (h : MH) : seg (C_M_at N) 2 0 rI T_M_at [0] (fun q lv st h => match Nat.ble 1 q with
    | true => D_M_at N n q lv st h
    | false => none) 400 true 0 [(0, .inr (.inr (0, 12, 68))), (1, .inl a1)] [] h = f_M_at N a1 h := (rfl)
def T_M_isSmall : List (List (Option RW)) := [
  [some (.iload_n 0, 1, [0], 0, 0), some (.bipush 97, 2, [], 97, 0), none, some (.if_icmp .lt 13, 3, [16], 0, 0), none, none, some (.iload_n 0, 1, [0], 0, 0), some (.bipush 122, 2, [], 122, 0), none, some (.if_icmp .gt 7, 3, [16], 0, 0), none, none, some (.iconst 1, 1, [], 1, 0), some (.goto 4, 3, [17], 0, 0), none, none, some (.iconst 0, 1, [], 0, 0), some (.ireturn, 1, [], 0, 0)]]
def f_M_isSmall (N : Nat) (a0 : Int32) (h : MH) : Option (Int32 × MH) :=
  if a0 < 97 then
  (some (0, h))
  else
  (if 122 < a0 then
  (some (0, h))
  else
  (some (1, h)))
def C_M_isSmall (N : Nat) : MC := (KDL, false, (fun _ => 0), jsB, (fun _ _ _ => none), (fun _ _ _ => none), (fun _ _ _ => none), (fun _ _ _ => none))
def D_M_isSmall (N : Nat) (n pc : Nat) (lv : ML) (st : List MV) (h : MH) : Option (Int32 × MH) :=
  match Nat.beq pc 0 with
  | true => (match lk lv 0, st with
    | some (.inl a0), [] => f_M_isSmall N a0 h
    | _, _ => none)
  | false => none
set_option maxRecDepth 1000000 in
theorem E_M_isSmall_0 (N : Nat) (n : Nat) (a0 : Int32) (h : MH) : seg (C_M_isSmall N) 1 1 rI T_M_isSmall [0] (fun q lv st h => match Nat.ble 1 q with
    | true => D_M_isSmall N n q lv st h
    | false => none) 400 true 0 [(0, .inl a0)] [] h = f_M_isSmall N a0 h := (rfl)
def T_M_isDigit : List (List (Option RW)) := [
  [some (.iload_n 0, 1, [0], 0, 0), some (.bipush 48, 2, [], 48, 0), none, some (.if_icmp .lt 13, 3, [16], 0, 0), none, none, some (.iload_n 0, 1, [0], 0, 0), some (.bipush 57, 2, [], 57, 0), none, some (.if_icmp .gt 7, 3, [16], 0, 0), none, none, some (.iconst 1, 1, [], 1, 0), some (.goto 4, 3, [17], 0, 0), none, none, some (.iconst 0, 1, [], 0, 0), some (.ireturn, 1, [], 0, 0)]]
def f_M_isDigit (N : Nat) (a0 : Int32) (h : MH) : Option (Int32 × MH) :=
  if a0 < 48 then
  (some (0, h))
  else
  (if 57 < a0 then
  (some (0, h))
  else
  (some (1, h)))
def C_M_isDigit (N : Nat) : MC := (KDL, false, (fun _ => 0), jsB, (fun _ _ _ => none), (fun _ _ _ => none), (fun _ _ _ => none), (fun _ _ _ => none))
def D_M_isDigit (N : Nat) (n pc : Nat) (lv : ML) (st : List MV) (h : MH) : Option (Int32 × MH) :=
  match Nat.beq pc 0 with
  | true => (match lk lv 0, st with
    | some (.inl a0), [] => f_M_isDigit N a0 h
    | _, _ => none)
  | false => none
set_option maxRecDepth 1000000 in
theorem E_M_isDigit_0 (N : Nat) (n : Nat) (a0 : Int32) (h : MH) : seg (C_M_isDigit N) 1 1 rI T_M_isDigit [0] (fun q lv st h => match Nat.ble 1 q with
    | true => D_M_isDigit N n q lv st h
    | false => none) 400 true 0 [(0, .inl a0)] [] h = f_M_isDigit N a0 h := (rfl)
def T_M_next : List (List (Option RW)) := [
  [some (.aload_n 0, 1, [0], 0, 0), some (.aload_n 0, 1, [0], 0, 0), some (.getfield 211, 3, [12, 12, 0], 0, 0), none, none, some (.invokevirtual 214, 3, [0, 180, 2, 0], 0, 0), none, none, some (.bipush 32, 2, [], 32, 0), none, some (.if_icmp .eq 16, 3, [26], 0, 0), none, none, some (.aload_n 0, 1, [0], 0, 0), some (.aload_n 0, 1, [0], 0, 0), some (.getfield 211, 3, [12, 12, 0], 0, 0), none, none, some (.invokevirtual 214, 3, [0, 180, 2, 0], 0, 0), none, none, some (.bipush 10, 2, [], 10, 0), none, some (.if_icmp .ne 16, 3, [39], 0, 0), none, none, some (.aload_n 0, 1, [0], 0, 0), some (.dup, 1, [], 0, 0), some (.getfield 211, 3, [12, 12, 0], 0, 0), none, none, some (.iconst 1, 1, [], 1, 0)],
  [some (.iadd, 1, [], 0, 0), some (.putfield 211, 3, [12, 12, 0], 0, 0), none, none, some (.goto (-36), 3, [0], 0, 0), none, none, some (.aload_n 0, 1, [0], 0, 0), some (.aload_n 0, 1, [0], 0, 0), some (.getfield 211, 3, [12, 12, 0], 0, 0), none, none, some (.putfield 217, 3, [12, 11, 0], 0, 0), none, none, some (.aload_n 0, 1, [0], 0, 0), some (.aload_n 0, 1, [0], 0, 0), some (.getfield 211, 3, [12, 12, 0], 0, 0), none, none, some (.invokevirtual 214, 3, [0, 180, 2, 0], 0, 0), none, none, some (.istore_n 1, 1, [1], 0, 0), some (.aload_n 0, 1, [0], 0, 0), some (.iload_n 1, 1, [1], 0, 0), some (.putfield 220, 3, [12, 13, 0], 0, 0), none, none, some (.iload_n 1, 1, [1], 0, 0), some (.iconst (-1), 1, [], (-1), 0), some (.if_icmp .ne 11, 3, [74], 0, 0)],
  [none, none, some (.aload_n 0, 1, [0], 0, 0), some (.iconst 0, 1, [], 0, 0), some (.putfield 223, 3, [12, 10, 0], 0, 0), none, none, some (.goto 192, 3, [263], 0, 0), none, none, some (.iload_n 1, 1, [1], 0, 0), some (.invokestatic 226, 3, [2, 181, 1, 0], 0, 0), none, none, some (.ifCond .eq 38, 3, [116], 0, 0), none, none, some (.aload_n 0, 1, [0], 0, 0), some (.aload_n 0, 1, [0], 0, 0), some (.getfield 211, 3, [12, 12, 0], 0, 0), none, none, some (.invokevirtual 214, 3, [0, 180, 2, 0], 0, 0), none, none, some (.invokestatic 226, 3, [2, 181, 1, 0], 0, 0), none, none, some (.ifCond .eq 16, 3, [108], 0, 0), none, none, some (.aload_n 0, 1, [0], 0, 0)],
  [some (.dup, 1, [], 0, 0), some (.getfield 211, 3, [12, 12, 0], 0, 0), none, none, some (.iconst 1, 1, [], 1, 0), some (.iadd, 1, [], 0, 0), some (.putfield 211, 3, [12, 12, 0], 0, 0), none, none, some (.goto (-24), 3, [81], 0, 0), none, none, some (.aload_n 0, 1, [0], 0, 0), some (.iconst 2, 1, [], 2, 0), some (.putfield 223, 3, [12, 10, 0], 0, 0), none, none, some (.goto 150, 3, [263], 0, 0), none, none, some (.iload_n 1, 1, [1], 0, 0), some (.invokestatic 229, 3, [2, 182, 1, 0], 0, 0), none, none, some (.ifCond .eq 88, 3, [208], 0, 0), none, none, some (.aload_n 0, 1, [0], 0, 0), some (.iconst 0, 1, [], 0, 0), some (.putfield 220, 3, [12, 13, 0], 0, 0), none, none],
  [some (.aload_n 0, 1, [0], 0, 0), some (.aload_n 0, 1, [0], 0, 0), some (.getfield 211, 3, [12, 12, 0], 0, 0), none, none, some (.invokevirtual 214, 3, [0, 180, 2, 0], 0, 0), none, none, some (.invokestatic 229, 3, [2, 182, 1, 0], 0, 0), none, none, some (.ifCond .eq 44, 3, [183], 0, 0), none, none, some (.aload_n 0, 1, [0], 0, 0), some (.ldc 232, 2, [], 1000000, 0), none, some (.bipush 10, 2, [], 10, 0), none, some (.aload_n 0, 1, [0], 0, 0), some (.getfield 220, 3, [12, 13, 0], 0, 0), none, none, some (.imul, 1, [], 0, 0), some (.aload_n 0, 1, [0], 0, 0), some (.aload_n 0, 1, [0], 0, 0), some (.getfield 211, 3, [12, 12, 0], 0, 0), none, none, some (.invokevirtual 214, 3, [0, 180, 2, 0], 0, 0), none, none],
  [some (.iadd, 1, [], 0, 0), some (.bipush 48, 2, [], 48, 0), none, some (.isub, 1, [], 0, 0), some (.invokestatic 233, 3, [2, 261, 2, 0], 0, 0), none, none, some (.putfield 220, 3, [12, 13, 0], 0, 0), none, none, some (.aload_n 0, 1, [0], 0, 0), some (.dup, 1, [], 0, 0), some (.getfield 211, 3, [12, 12, 0], 0, 0), none, none, some (.iconst 1, 1, [], 1, 0), some (.iadd, 1, [], 0, 0), some (.putfield 211, 3, [12, 12, 0], 0, 0), none, none, some (.goto (-52), 3, [128], 0, 0), none, none, some (.aload_n 0, 1, [0], 0, 0), some (.aload_n 0, 1, [0], 0, 0), some (.getfield 211, 3, [12, 12, 0], 0, 0), none, none, some (.aload_n 0, 1, [0], 0, 0), some (.getfield 217, 3, [12, 11, 0], 0, 0), none, none],
  [some (.isub, 1, [], 0, 0), some (.iconst 4, 1, [], 4, 0), some (.if_icmp .le 7, 3, [201], 0, 0), none, none, some (.iconst 1, 1, [], 1, 0), some (.goto 4, 3, [202], 0, 0), none, none, some (.iconst 3, 1, [], 3, 0), some (.putfield 223, 3, [12, 10, 0], 0, 0), none, none, some (.goto 58, 3, [263], 0, 0), none, none, some (.aload_n 0, 1, [0], 0, 0), some (.dup, 1, [], 0, 0), some (.getfield 211, 3, [12, 12, 0], 0, 0), none, none, some (.iconst 1, 1, [], 1, 0), some (.iadd, 1, [], 0, 0), some (.putfield 211, 3, [12, 12, 0], 0, 0), none, none, some (.aload_n 0, 1, [0], 0, 0), some (.iload_n 1, 1, [1], 0, 0), some (.bipush 59, 2, [], 59, 0), none, some (.if_icmp .eq 33, 3, [255], 0, 0), none],
  [none, some (.iload_n 1, 1, [1], 0, 0), some (.bipush 43, 2, [], 43, 0), none, some (.if_icmp .eq 27, 3, [255], 0, 0), none, none, some (.iload_n 1, 1, [1], 0, 0), some (.bipush 45, 2, [], 45, 0), none, some (.if_icmp .eq 21, 3, [255], 0, 0), none, none, some (.iload_n 1, 1, [1], 0, 0), some (.bipush 42, 2, [], 42, 0), none, some (.if_icmp .eq 15, 3, [255], 0, 0), none, none, some (.iload_n 1, 1, [1], 0, 0), some (.bipush 40, 2, [], 40, 0), none, some (.if_icmp .eq 9, 3, [255], 0, 0), none, none, some (.iload_n 1, 1, [1], 0, 0), some (.bipush 41, 2, [], 41, 0), none, some (.if_icmp .ne 7, 3, [259], 0, 0), none, none, some (.iconst 4, 1, [], 4, 0)],
  [some (.goto 4, 3, [260], 0, 0), none, none, some (.iconst 1, 1, [], 1, 0), some (.putfield 223, 3, [12, 10, 0], 0, 0), none, none, some (.return_, 1, [], 0, 0)]]
def F_M_next_128 (N : Nat) (bk : (MH → Option (MH)) × (MH → Option (MH)) × (MH → Option (MH))) (h : MH) : Option (MH) :=
  (f_M_at N (gI h 68 12) h).bind (fun x24 =>
  (f_M_isDigit N x24.1 x24.2).bind (fun x25 =>
  if x25.1 = 0 then
  (if ((gI x25.2 68 12) - (gI x25.2 68 11)) ≤ 4 then
  (let h26 : MH := sI x25.2 68 10 3
  some h26)
  else
  (let h27 : MH := sI x25.2 68 10 1
  some h27))
  else
  ((f_M_at N (gI x25.2 68 12) x25.2).bind (fun x28 =>
  (f_Math_min_II N 1000000 (((10 * (gI x25.2 68 13)) + x28.1) - 48) x28.2).bind (fun x29 =>
  let h30 : MH := sI x29.2 68 13 x29.1
  let h31 : MH := sI h30 68 12 ((gI h30 68 12) + 1)
  (bk.2.2) h31)))))
def F_M_next_81 (N : Nat) (bk : (MH → Option (MH)) × (MH → Option (MH)) × (MH → Option (MH))) (h : MH) : Option (MH) :=
  (f_M_at N (gI h 68 12) h).bind (fun x20 =>
  (f_M_isSmall N x20.1 x20.2).bind (fun x21 =>
  if x21.1 = 0 then
  (let h22 : MH := sI x21.2 68 10 2
  some h22)
  else
  (let h23 : MH := sI x21.2 68 12 ((gI x21.2 68 12) + 1)
  (bk.2.1) h23)))
def F_M_next_0 (N : Nat) (bk : (MH → Option (MH)) × (MH → Option (MH)) × (MH → Option (MH))) (h : MH) : Option (MH) :=
  (f_M_at N (gI h 68 12) h).bind (fun x1 =>
  if x1.1 = 32 then
  (let h2 : MH := sI x1.2 68 12 ((gI x1.2 68 12) + 1)
  (bk.1) h2)
  else
  ((f_M_at N (gI x1.2 68 12) x1.2).bind (fun x3 =>
  if x3.1 = 10 then
  (let h4 : MH := sI x3.2 68 12 ((gI x3.2 68 12) + 1)
  (bk.1) h4)
  else
  (let h5 : MH := sI x3.2 68 11 (gI x3.2 68 12)
  (f_M_at N (gI h5 68 12) h5).bind (fun x6 =>
  let h7 : MH := sI x6.2 68 13 x6.1
  if x6.1 = ((-1)) then
  (let h8 : MH := sI h7 68 10 0
  some h8)
  else
  ((f_M_isSmall N x6.1 h7).bind (fun x9 =>
  if x9.1 = 0 then
  ((f_M_isDigit N x6.1 x9.2).bind (fun x10 =>
  if x10.1 = 0 then
  (let h11 : MH := sI x10.2 68 12 ((gI x10.2 68 12) + 1)
  if x6.1 = 59 then
  (let h12 : MH := sI h11 68 10 4
  some h12)
  else
  (if x6.1 = 43 then
  (let h13 : MH := sI h11 68 10 4
  some h13)
  else
  (if x6.1 = 45 then
  (let h14 : MH := sI h11 68 10 4
  some h14)
  else
  (if x6.1 = 42 then
  (let h15 : MH := sI h11 68 10 4
  some h15)
  else
  (if x6.1 = 40 then
  (let h16 : MH := sI h11 68 10 4
  some h16)
  else
  (if x6.1 = 41 then
  (let h17 : MH := sI h11 68 10 4
  some h17)
  else
  (let h18 : MH := sI h11 68 10 1
  some h18)))))))
  else
  (let h19 : MH := sI x10.2 68 13 0
  F_M_next_128 N bk h19)))
  else
  (F_M_next_81 N bk x9.2))))))))
def L_M_next (N : Nat) : Nat → ((MH → Option (MH)) × (MH → Option (MH)) × (MH → Option (MH)))
  | 0 => (fun _ => none, fun _ => none, fun _ => none)
  | n + 1 => (F_M_next_0 N (L_M_next N n), F_M_next_81 N (L_M_next N n), F_M_next_128 N (L_M_next N n))
def f_M_next (N : Nat) (h : MH) : Option (MH) := F_M_next_0 N (L_M_next N N) h
def C_M_next (N : Nat) : MC := (KDL, false, (fun _ => 0), jsB, (fun j => match Nat.beq j 180 with
    | true => w_M_at (f_M_at N)
    | false => match Nat.beq j 181 with
    | true => w_M_isSmall (f_M_isSmall N)
    | false => match Nat.beq j 182 with
    | true => w_M_isDigit (f_M_isDigit N)
    | false => match Nat.beq j 261 with
    | true => w_Math_min_II (f_Math_min_II N)
    | false => fun _ _ => none), (fun _ _ _ => none), (fun _ _ _ => none), (fun _ _ _ => none))
def D_M_next (N : Nat) (n pc : Nat) (lv : ML) (st : List MV) (h : MH) : Option (MH) :=
  match Nat.beq pc 0 with
  | true => (match lk lv 0, st with
    | some (.inr (.inr (0, 12, 68))), [] => F_M_next_0 N (L_M_next N n) h
    | _, _ => none)
  | false => match Nat.beq pc 81 with
  | true => (match lk lv 0, st with
    | some (.inr (.inr (0, 12, 68))), [] => F_M_next_81 N (L_M_next N n) h
    | _, _ => none)
  | false => match Nat.beq pc 128 with
  | true => (match lk lv 0, st with
    | some (.inr (.inr (0, 12, 68))), [] => F_M_next_128 N (L_M_next N n) h
    | _, _ => none)
  | false => none
def B_M_next (N : Nat) (n pc : Nat) (lv : ML) (st : List MV) (h : MH) : Option (MH) :=
  match Nat.beq pc 0 with
  | true => (match lk lv 0, st with
    | some (.inr (.inr (0, 12, 68))), [] => ((L_M_next N n).1) h
    | _, _ => none)
  | false => match Nat.beq pc 81 with
  | true => (match lk lv 0, st with
    | some (.inr (.inr (0, 12, 68))), [] => ((L_M_next N n).2.1) h
    | _, _ => none)
  | false => match Nat.beq pc 128 with
  | true => (match lk lv 0, st with
    | some (.inr (.inr (0, 12, 68))), [] => ((L_M_next N n).2.2) h
    | _, _ => none)
  | false => none
set_option maxRecDepth 1000000 in
theorem E_M_next_0 (N : Nat) (n : Nat) (h : MH) : seg (C_M_next N) 2 0 rV T_M_next [0, 81, 128] (fun q lv st h => match Nat.ble 1 q with
    | true => D_M_next N n q lv st h
    | false => B_M_next N n q lv st h) 400 true 0 [(0, .inr (.inr (0, 12, 68)))] [] h = F_M_next_0 N (L_M_next N n) h := (rfl)
set_option maxRecDepth 1000000 in
theorem E_M_next_81 (N : Nat) (n : Nat) (h : MH) : seg (C_M_next N) 2 0 rV T_M_next [0, 81, 128] (fun q lv st h => match Nat.ble 82 q with
    | true => D_M_next N n q lv st h
    | false => B_M_next N n q lv st h) 400 true 81 [(0, .inr (.inr (0, 12, 68)))] [] h = F_M_next_81 N (L_M_next N n) h := (rfl)
set_option maxRecDepth 1000000 in
theorem E_M_next_128 (N : Nat) (n : Nat) (h : MH) : seg (C_M_next N) 2 0 rV T_M_next [0, 81, 128] (fun q lv st h => match Nat.ble 129 q with
    | true => D_M_next N n q lv st h
    | false => B_M_next N n q lv st h) 400 true 128 [(0, .inr (.inr (0, 12, 68)))] [] h = F_M_next_128 N (L_M_next N n) h := (rfl)
def T_M_isSign : List (List (Option RW)) := [
  [some (.aload_n 0, 1, [0], 0, 0), some (.getfield 223, 3, [12, 10, 0], 0, 0), none, none, some (.iconst 4, 1, [], 4, 0), some (.if_icmp .ne 15, 3, [20], 0, 0), none, none, some (.aload_n 0, 1, [0], 0, 0), some (.getfield 220, 3, [12, 13, 0], 0, 0), none, none, some (.iload_n 1, 1, [1], 0, 0), some (.if_icmp .ne 7, 3, [20], 0, 0), none, none, some (.iconst 1, 1, [], 1, 0), some (.goto 4, 3, [21], 0, 0), none, none, some (.iconst 0, 1, [], 0, 0), some (.ireturn, 1, [], 0, 0)]]
def f_M_isSign (N : Nat) (a1 : Int32) (h : MH) : Option (Int32 × MH) :=
  if (gI h 68 10) = 4 then
  (if (gI h 68 13) = a1 then
  (some (1, h))
  else
  (some (0, h)))
  else
  (some (0, h))
def C_M_isSign (N : Nat) : MC := (KDL, false, (fun _ => 0), jsB, (fun _ _ _ => none), (fun _ _ _ => none), (fun _ _ _ => none), (fun _ _ _ => none))
def D_M_isSign (N : Nat) (n pc : Nat) (lv : ML) (st : List MV) (h : MH) : Option (Int32 × MH) :=
  match Nat.beq pc 0 with
  | true => (match lk lv 0, lk lv 1, st with
    | some (.inr (.inr (0, 12, 68))), some (.inl a1), [] => f_M_isSign N a1 h
    | _, _, _ => none)
  | false => none
set_option maxRecDepth 1000000 in
theorem E_M_isSign_0 (N : Nat) (n : Nat) (a1 : Int32) (h : MH) : seg (C_M_isSign N) 2 1 rI T_M_isSign [0] (fun q lv st h => match Nat.ble 1 q with
    | true => D_M_isSign N n q lv st h
    | false => none) 400 true 0 [(0, .inr (.inr (0, 12, 68))), (1, .inl a1)] [] h = f_M_isSign N a1 h := (rfl)
def T_M_key : List (List (Option RW)) := [
  [some (.aload_n 0, 1, [0], 0, 0), some (.getfield 223, 3, [12, 10, 0], 0, 0), none, none, some (.iconst 2, 1, [], 2, 0), some (.if_icmp .eq 5, 3, [10], 0, 0), none, none, some (.iconst (-1), 1, [], (-1), 0), some (.ireturn, 1, [], 0, 0), some (.iconst 0, 1, [], 0, 0), some (.istore_n 1, 1, [1], 0, 0), some (.iconst 1, 1, [], 1, 0), some (.istore_n 2, 1, [2], 0, 0), some (.iload_n 2, 1, [2], 0, 0), some (.ldc 238, 2, [9], 0, 0), none, some (.invokevirtual 240, 3, [6, 263, 1, 0], 0, 0), none, none, some (.if_icmp .ge 111, 3, [131], 0, 0), none, none, some (.iload_n 2, 1, [2], 0, 0), some (.istore_n 3, 1, [3], 0, 0), some (.ldc 238, 2, [9], 0, 0), none, some (.iload_n 3, 1, [3], 0, 0), some (.invokevirtual 246, 3, [6, 264, 2, 0], 0, 0), none, none, some (.bipush 32, 2, [], 32, 0)],
  [none, some (.if_icmp .eq 9, 3, [42], 0, 0), none, none, some (.iinc 3 1, 3, [3], 1, 0), none, none, some (.goto (-14), 3, [25], 0, 0), none, none, some (.iload_n 3, 1, [3], 0, 0), some (.iload_n 2, 1, [2], 0, 0), some (.isub, 1, [], 0, 0), some (.aload_n 0, 1, [0], 0, 0), some (.getfield 211, 3, [12, 12, 0], 0, 0), none, none, some (.aload_n 0, 1, [0], 0, 0), some (.getfield 217, 3, [12, 11, 0], 0, 0), none, none, some (.isub, 1, [], 0, 0), some (.if_icmp .ne 7, 3, [61], 0, 0), none, none, some (.iconst 1, 1, [], 1, 0), some (.goto 4, 3, [62], 0, 0), none, none, some (.iconst 0, 1, [], 0, 0), some (.istore 4, 2, [4], 0, 0), none],
  [some (.iload_n 2, 1, [2], 0, 0), some (.istore 5, 2, [5], 0, 0), none, some (.iload 5, 2, [5], 0, 0), none, some (.iload_n 3, 1, [3], 0, 0), some (.if_icmp .ge 44, 3, [114], 0, 0), none, none, some (.iload 4, 2, [4], 0, 0), none, some (.ifCond .eq 39, 3, [114], 0, 0), none, none, some (.ldc 238, 2, [9], 0, 0), none, some (.iload 5, 2, [5], 0, 0), none, some (.invokevirtual 246, 3, [6, 264, 2, 0], 0, 0), none, none, some (.aload_n 0, 1, [0], 0, 0), some (.aload_n 0, 1, [0], 0, 0), some (.getfield 217, 3, [12, 11, 0], 0, 0), none, none, some (.iload 5, 2, [5], 0, 0), none, some (.iadd, 1, [], 0, 0), some (.iload_n 2, 1, [2], 0, 0), some (.isub, 1, [], 0, 0), some (.invokevirtual 214, 3, [0, 180, 2, 0], 0, 0)],
  [none, none, some (.if_icmp .ne 7, 3, [105], 0, 0), none, none, some (.iconst 1, 1, [], 1, 0), some (.goto 4, 3, [106], 0, 0), none, none, some (.iconst 0, 1, [], 0, 0), some (.istore 4, 2, [4], 0, 0), none, some (.iinc 5 1, 3, [5], 1, 0), none, none, some (.goto (-44), 3, [67], 0, 0), none, none, some (.iload 4, 2, [4], 0, 0), none, some (.ifCond .eq 5, 3, [121], 0, 0), none, none, some (.iload_n 1, 1, [1], 0, 0), some (.ireturn, 1, [], 0, 0), some (.iinc 1 1, 3, [1], 1, 0), none, none, some (.iload_n 3, 1, [3], 0, 0), some (.iconst 1, 1, [], 1, 0), some (.iadd, 1, [], 0, 0), some (.istore_n 2, 1, [2], 0, 0)],
  [some (.goto (-114), 3, [14], 0, 0), none, none, some (.iconst (-1), 1, [], (-1), 0), some (.ireturn, 1, [], 0, 0)]]
def F_M_key_114 (N : Nat) (bk : (Int32 → Int32 → MH → Option (Int32 × MH)) × (Int32 → Int32 → Int32 → MH → Option (Int32 × MH)) × (Int32 → Int32 → Int32 → Int32 → Int32 → MH → Option (Int32 × MH))) (a1 : Int32) (a3 : Int32) (a4 : Int32) (h : MH) : Option (Int32 × MH) :=
  if a4 = 0 then
  (let v8 : Int32 := a1 + 1
  let v9 : Int32 := a3 + 1
  (bk.1) v8 v9 h)
  else
  (some (a1, h))
def F_M_key_67 (N : Nat) (bk : (Int32 → Int32 → MH → Option (Int32 × MH)) × (Int32 → Int32 → Int32 → MH → Option (Int32 × MH)) × (Int32 → Int32 → Int32 → Int32 → Int32 → MH → Option (Int32 × MH))) (a1 : Int32) (a2 : Int32) (a3 : Int32) (a4 : Int32) (a5 : Int32) (h : MH) : Option (Int32 × MH) :=
  if a3 ≤ a5 then
  (F_M_key_114 N bk a1 a3 a4 h)
  else
  (if a4 = 0 then
  (F_M_key_114 N bk a1 a3 a4 h)
  else
  ((f_String_charAt N 9 a5 h).bind (fun x4 =>
  (f_M_at N (((gI x4.2 68 11) + a5) - a2) x4.2).bind (fun x5 =>
  if x4.1 = x5.1 then
  (let v6 : Int32 := a5 + 1
  (bk.2.2) a1 a2 a3 1 v6 x5.2)
  else
  (let v7 : Int32 := a5 + 1
  (bk.2.2) a1 a2 a3 0 v7 x5.2)))))
def F_M_key_25 (N : Nat) (bk : (Int32 → Int32 → MH → Option (Int32 × MH)) × (Int32 → Int32 → Int32 → MH → Option (Int32 × MH)) × (Int32 → Int32 → Int32 → Int32 → Int32 → MH → Option (Int32 × MH))) (a1 : Int32) (a2 : Int32) (a3 : Int32) (h : MH) : Option (Int32 × MH) :=
  (f_String_charAt N 9 a3 h).bind (fun x2 =>
  if x2.1 = 32 then
  (if (a3 - a2) = ((gI x2.2 68 12) - (gI x2.2 68 11)) then
  (F_M_key_67 N bk a1 a2 a3 1 a2 x2.2)
  else
  (F_M_key_67 N bk a1 a2 a3 0 a2 x2.2))
  else
  (let v3 : Int32 := a3 + 1
  (bk.2.1) a1 a2 v3 x2.2))
def F_M_key_14 (N : Nat) (bk : (Int32 → Int32 → MH → Option (Int32 × MH)) × (Int32 → Int32 → Int32 → MH → Option (Int32 × MH)) × (Int32 → Int32 → Int32 → Int32 → Int32 → MH → Option (Int32 × MH))) (a1 : Int32) (a2 : Int32) (h : MH) : Option (Int32 × MH) :=
  (f_String_length N 9 h).bind (fun x1 =>
  if x1.1 ≤ a2 then
  (some ((-1), x1.2))
  else
  (F_M_key_25 N bk a1 a2 a2 x1.2))
def F_M_key_0 (N : Nat) (bk : (Int32 → Int32 → MH → Option (Int32 × MH)) × (Int32 → Int32 → Int32 → MH → Option (Int32 × MH)) × (Int32 → Int32 → Int32 → Int32 → Int32 → MH → Option (Int32 × MH))) (h : MH) : Option (Int32 × MH) :=
  if (gI h 68 10) = 2 then
  (F_M_key_14 N bk 0 1 h)
  else
  (some ((-1), h))
def L_M_key (N : Nat) : Nat → ((Int32 → Int32 → MH → Option (Int32 × MH)) × (Int32 → Int32 → Int32 → MH → Option (Int32 × MH)) × (Int32 → Int32 → Int32 → Int32 → Int32 → MH → Option (Int32 × MH)))
  | 0 => (fun _ _ _ => none, fun _ _ _ _ => none, fun _ _ _ _ _ _ => none)
  | n + 1 => (F_M_key_14 N (L_M_key N n), F_M_key_25 N (L_M_key N n), F_M_key_67 N (L_M_key N n))
def f_M_key (N : Nat) (h : MH) : Option (Int32 × MH) := F_M_key_0 N (L_M_key N N) h
def C_M_key (N : Nat) : MC := (KDL, false, (fun _ => 0), jsB, (fun j => match Nat.beq j 180 with
    | true => w_M_at (f_M_at N)
    | false => match Nat.beq j 263 with
    | true => w_String_length (f_String_length N)
    | false => match Nat.beq j 264 with
    | true => w_String_charAt (f_String_charAt N)
    | false => fun _ _ => none), (fun _ _ _ => none), (fun _ _ _ => none), (fun _ _ _ => none))
def D_M_key (N : Nat) (n pc : Nat) (lv : ML) (st : List MV) (h : MH) : Option (Int32 × MH) :=
  match Nat.beq pc 0 with
  | true => (match lk lv 0, st with
    | some (.inr (.inr (0, 12, 68))), [] => F_M_key_0 N (L_M_key N n) h
    | _, _ => none)
  | false => match Nat.beq pc 14 with
  | true => (match lk lv 0, lk lv 1, lk lv 2, st with
    | some (.inr (.inr (0, 12, 68))), some (.inl a1), some (.inl a2), [] => F_M_key_14 N (L_M_key N n) a1 a2 h
    | _, _, _, _ => none)
  | false => match Nat.beq pc 25 with
  | true => (match lk lv 0, lk lv 1, lk lv 2, lk lv 3, st with
    | some (.inr (.inr (0, 12, 68))), some (.inl a1), some (.inl a2), some (.inl a3), [] => F_M_key_25 N (L_M_key N n) a1 a2 a3 h
    | _, _, _, _, _ => none)
  | false => match Nat.beq pc 67 with
  | true => (match lk lv 0, lk lv 1, lk lv 2, lk lv 3, lk lv 4, lk lv 5, st with
    | some (.inr (.inr (0, 12, 68))), some (.inl a1), some (.inl a2), some (.inl a3), some (.inl a4), some (.inl a5), [] => F_M_key_67 N (L_M_key N n) a1 a2 a3 a4 a5 h
    | _, _, _, _, _, _, _ => none)
  | false => match Nat.beq pc 114 with
  | true => (match lk lv 0, lk lv 1, lk lv 3, lk lv 4, st with
    | some (.inr (.inr (0, 12, 68))), some (.inl a1), some (.inl a3), some (.inl a4), [] => F_M_key_114 N (L_M_key N n) a1 a3 a4 h
    | _, _, _, _, _ => none)
  | false => none
def B_M_key (N : Nat) (n pc : Nat) (lv : ML) (st : List MV) (h : MH) : Option (Int32 × MH) :=
  match Nat.beq pc 14 with
  | true => (match lk lv 0, lk lv 1, lk lv 2, st with
    | some (.inr (.inr (0, 12, 68))), some (.inl a1), some (.inl a2), [] => ((L_M_key N n).1) a1 a2 h
    | _, _, _, _ => none)
  | false => match Nat.beq pc 25 with
  | true => (match lk lv 0, lk lv 1, lk lv 2, lk lv 3, st with
    | some (.inr (.inr (0, 12, 68))), some (.inl a1), some (.inl a2), some (.inl a3), [] => ((L_M_key N n).2.1) a1 a2 a3 h
    | _, _, _, _, _ => none)
  | false => match Nat.beq pc 67 with
  | true => (match lk lv 0, lk lv 1, lk lv 2, lk lv 3, lk lv 4, lk lv 5, st with
    | some (.inr (.inr (0, 12, 68))), some (.inl a1), some (.inl a2), some (.inl a3), some (.inl a4), some (.inl a5), [] => ((L_M_key N n).2.2) a1 a2 a3 a4 a5 h
    | _, _, _, _, _, _, _ => none)
  | false => none
set_option maxRecDepth 1000000 in
theorem E_M_key_0 (N : Nat) (n : Nat) (h : MH) : seg (C_M_key N) 6 0 rI T_M_key [0, 14, 25, 67, 114] (fun q lv st h => match Nat.ble 1 q with
    | true => D_M_key N n q lv st h
    | false => B_M_key N n q lv st h) 400 true 0 [(0, .inr (.inr (0, 12, 68)))] [] h = F_M_key_0 N (L_M_key N n) h := (rfl)
set_option maxRecDepth 1000000 in
theorem E_M_key_14 (N : Nat) (n : Nat) (a1 : Int32) (a2 : Int32) (h : MH) : seg (C_M_key N) 6 0 rI T_M_key [0, 14, 25, 67, 114] (fun q lv st h => match Nat.ble 15 q with
    | true => D_M_key N n q lv st h
    | false => B_M_key N n q lv st h) 400 true 14 [(0, .inr (.inr (0, 12, 68))), (1, .inl a1), (2, .inl a2)] [] h = F_M_key_14 N (L_M_key N n) a1 a2 h := (rfl)
set_option maxRecDepth 1000000 in
theorem E_M_key_25 (N : Nat) (n : Nat) (a1 : Int32) (a2 : Int32) (a3 : Int32) (h : MH) : seg (C_M_key N) 6 0 rI T_M_key [0, 14, 25, 67, 114] (fun q lv st h => match Nat.ble 26 q with
    | true => D_M_key N n q lv st h
    | false => B_M_key N n q lv st h) 400 true 25 [(0, .inr (.inr (0, 12, 68))), (1, .inl a1), (2, .inl a2), (3, .inl a3)] [] h = F_M_key_25 N (L_M_key N n) a1 a2 a3 h := (rfl)
set_option maxRecDepth 1000000 in
theorem E_M_key_67 (N : Nat) (n : Nat) (a1 : Int32) (a2 : Int32) (a3 : Int32) (a4 : Int32) (a5 : Int32) (h : MH) : seg (C_M_key N) 6 0 rI T_M_key [0, 14, 25, 67, 114] (fun q lv st h => match Nat.ble 68 q with
    | true => D_M_key N n q lv st h
    | false => B_M_key N n q lv st h) 400 true 67 [(0, .inr (.inr (0, 12, 68))), (1, .inl a1), (2, .inl a2), (3, .inl a3), (4, .inl a4), (5, .inl a5)] [] h = F_M_key_67 N (L_M_key N n) a1 a2 a3 a4 a5 h := (rfl)
set_option maxRecDepth 1000000 in
theorem E_M_key_114 (N : Nat) (n : Nat) (a1 : Int32) (a3 : Int32) (a4 : Int32) (h : MH) : seg (C_M_key N) 6 0 rI T_M_key [0, 14, 25, 67, 114] (fun q lv st h => match Nat.ble 115 q with
    | true => D_M_key N n q lv st h
    | false => B_M_key N n q lv st h) 400 true 114 [(0, .inr (.inr (0, 12, 68))), (1, .inl a1), (3, .inl a3), (4, .inl a4)] [] h = F_M_key_114 N (L_M_key N n) a1 a3 a4 h := (rfl)
def T_M_failsAt : List (List (Option RW)) := [
  [some (.aload_n 0, 1, [0], 0, 0), some (.getfield 254, 3, [12, 16, 0], 0, 0), none, none, some (.ifCond .ne 13, 3, [17], 0, 0), none, none, some (.aload_n 0, 1, [0], 0, 0), some (.iload_n 1, 1, [1], 0, 0), some (.putfield 254, 3, [12, 16, 0], 0, 0), none, none, some (.aload_n 0, 1, [0], 0, 0), some (.iload_n 2, 1, [2], 0, 0), some (.putfield 35, 3, [12, 15, 0], 0, 0), none, none, some (.iconst 0, 1, [], 0, 0), some (.ireturn, 1, [], 0, 0)]]
def f_M_failsAt (N : Nat) (a1 : Int32) (a2 : Int32) (h : MH) : Option (Int32 × MH) :=
  if (gI h 68 16) = 0 then
  (let h1 : MH := sI h 68 16 a1
  let h2 : MH := sI h1 68 15 a2
  some (0, h2))
  else
  (some (0, h))
def C_M_failsAt (N : Nat) : MC := (KDL, false, (fun _ => 0), jsB, (fun _ _ _ => none), (fun _ _ _ => none), (fun _ _ _ => none), (fun _ _ _ => none))
def D_M_failsAt (N : Nat) (n pc : Nat) (lv : ML) (st : List MV) (h : MH) : Option (Int32 × MH) :=
  match Nat.beq pc 0 with
  | true => (match lk lv 0, lk lv 1, lk lv 2, st with
    | some (.inr (.inr (0, 12, 68))), some (.inl a1), some (.inl a2), [] => f_M_failsAt N a1 a2 h
    | _, _, _, _ => none)
  | false => none
set_option maxRecDepth 1000000 in
theorem E_M_failsAt_0 (N : Nat) (n : Nat) (a1 : Int32) (a2 : Int32) (h : MH) : seg (C_M_failsAt N) 3 1 rI T_M_failsAt [0] (fun q lv st h => match Nat.ble 1 q with
    | true => D_M_failsAt N n q lv st h
    | false => none) 400 true 0 [(0, .inr (.inr (0, 12, 68))), (1, .inl a1), (2, .inl a2)] [] h = f_M_failsAt N a1 a2 h := (rfl)
def T_M_fails : List (List (Option RW)) := [
  [some (.aload_n 0, 1, [0], 0, 0), some (.aload_n 0, 1, [0], 0, 0), some (.getfield 223, 3, [12, 10, 0], 0, 0), none, none, some (.iconst 1, 1, [], 1, 0), some (.if_icmp .ne 7, 3, [13], 0, 0), none, none, some (.iconst 1, 1, [], 1, 0), some (.goto 4, 3, [14], 0, 0), none, none, some (.iload_n 1, 1, [1], 0, 0), some (.aload_n 0, 1, [0], 0, 0), some (.getfield 217, 3, [12, 11, 0], 0, 0), none, none, some (.invokevirtual 250, 3, [0, 187, 3, 0], 0, 0), none, none, some (.ireturn, 1, [], 0, 0)]]
def f_M_fails (N : Nat) (a1 : Int32) (h : MH) : Option (Int32 × MH) :=
  if (gI h 68 10) = 1 then
  ((f_M_failsAt N 1 (gI h 68 11) h).bind (fun x1 =>
  match narOK 1 x1.1 with
  | true => some (x1.1, x1.2)
  | false => none))
  else
  ((f_M_failsAt N a1 (gI h 68 11) h).bind (fun x2 =>
  match narOK 1 x2.1 with
  | true => some (x2.1, x2.2)
  | false => none))
def C_M_fails (N : Nat) : MC := (KDL, false, (fun _ => 0), jsB, (fun j => match Nat.beq j 187 with
    | true => w_M_failsAt (f_M_failsAt N)
    | false => fun _ _ => none), (fun _ _ _ => none), (fun _ _ _ => none), (fun _ _ _ => none))
def D_M_fails (N : Nat) (n pc : Nat) (lv : ML) (st : List MV) (h : MH) : Option (Int32 × MH) :=
  match Nat.beq pc 0 with
  | true => (match lk lv 0, lk lv 1, st with
    | some (.inr (.inr (0, 12, 68))), some (.inl a1), [] => f_M_fails N a1 h
    | _, _, _ => none)
  | false => none
set_option maxRecDepth 1000000 in
theorem E_M_fails_0 (N : Nat) (n : Nat) (a1 : Int32) (h : MH) : seg (C_M_fails N) 2 1 rI T_M_fails [0] (fun q lv st h => match Nat.ble 1 q with
    | true => D_M_fails N n q lv st h
    | false => none) 400 true 0 [(0, .inr (.inr (0, 12, 68))), (1, .inl a1)] [] h = f_M_fails N a1 h := (rfl)
def T_M_wantKey : List (List (Option RW)) := [
  [some (.aload_n 0, 1, [0], 0, 0), some (.invokevirtual 257, 3, [0, 185, 1, 0], 0, 0), none, none, some (.iload_n 1, 1, [1], 0, 0), some (.if_icmp .eq 9, 3, [14], 0, 0), none, none, some (.aload_n 0, 1, [0], 0, 0), some (.iconst 2, 1, [], 2, 0), some (.invokevirtual 260, 3, [0, 186, 2, 0], 0, 0), none, none, some (.ireturn, 1, [], 0, 0), some (.aload_n 0, 1, [0], 0, 0), some (.invokevirtual 263, 3, [0, 183, 1, 3], 0, 0), none, none, some (.iconst 1, 1, [], 1, 0), some (.ireturn, 1, [], 0, 0)]]
def f_M_wantKey (N : Nat) (a1 : Int32) (h : MH) : Option (Int32 × MH) :=
  (f_M_key N h).bind (fun x1 =>
  if x1.1 = a1 then
  ((f_M_next N x1.2).bind (fun x2 =>
  some (1, x2)))
  else
  ((f_M_fails N 2 x1.2).bind (fun x3 =>
  match narOK 1 x3.1 with
  | true => some (x3.1, x3.2)
  | false => none)))
def C_M_wantKey (N : Nat) : MC := (KDL, false, (fun _ => 0), jsB, (fun j => match Nat.beq j 185 with
    | true => w_M_key (f_M_key N)
    | false => match Nat.beq j 186 with
    | true => w_M_fails (f_M_fails N)
    | false => fun _ _ => none), (fun _ _ _ => none), (fun _ _ _ => none), (fun j => match Nat.beq j 183 with
    | true => w_M_next (f_M_next N)
    | false => fun _ _ => none))
def D_M_wantKey (N : Nat) (n pc : Nat) (lv : ML) (st : List MV) (h : MH) : Option (Int32 × MH) :=
  match Nat.beq pc 0 with
  | true => (match lk lv 0, lk lv 1, st with
    | some (.inr (.inr (0, 12, 68))), some (.inl a1), [] => f_M_wantKey N a1 h
    | _, _, _ => none)
  | false => none
set_option maxRecDepth 1000000 in
theorem E_M_wantKey_0 (N : Nat) (n : Nat) (a1 : Int32) (h : MH) : seg (C_M_wantKey N) 2 1 rI T_M_wantKey [0] (fun q lv st h => match Nat.ble 1 q with
    | true => D_M_wantKey N n q lv st h
    | false => none) 400 true 0 [(0, .inr (.inr (0, 12, 68))), (1, .inl a1)] [] h = f_M_wantKey N a1 h := (rfl)
def T_M_wantEnd : List (List (Option RW)) := [
  [some (.aload_n 0, 1, [0], 0, 0), some (.bipush 59, 2, [], 59, 0), none, some (.invokevirtual 266, 3, [0, 184, 2, 0], 0, 0), none, none, some (.ifCond .ne 9, 3, [15], 0, 0), none, none, some (.aload_n 0, 1, [0], 0, 0), some (.iconst 2, 1, [], 2, 0), some (.invokevirtual 260, 3, [0, 186, 2, 0], 0, 0), none, none, some (.ireturn, 1, [], 0, 0), some (.iconst 1, 1, [], 1, 0), some (.ireturn, 1, [], 0, 0)]]
def f_M_wantEnd (N : Nat) (h : MH) : Option (Int32 × MH) :=
  (f_M_isSign N 59 h).bind (fun x1 =>
  if x1.1 = 0 then
  ((f_M_fails N 2 x1.2).bind (fun x2 =>
  match narOK 1 x2.1 with
  | true => some (x2.1, x2.2)
  | false => none))
  else
  (some (1, x1.2)))
def C_M_wantEnd (N : Nat) : MC := (KDL, false, (fun _ => 0), jsB, (fun j => match Nat.beq j 184 with
    | true => w_M_isSign (f_M_isSign N)
    | false => match Nat.beq j 186 with
    | true => w_M_fails (f_M_fails N)
    | false => fun _ _ => none), (fun _ _ _ => none), (fun _ _ _ => none), (fun _ _ _ => none))
def D_M_wantEnd (N : Nat) (n pc : Nat) (lv : ML) (st : List MV) (h : MH) : Option (Int32 × MH) :=
  match Nat.beq pc 0 with
  | true => (match lk lv 0, st with
    | some (.inr (.inr (0, 12, 68))), [] => f_M_wantEnd N h
    | _, _ => none)
  | false => none
set_option maxRecDepth 1000000 in
theorem E_M_wantEnd_0 (N : Nat) (n : Nat) (h : MH) : seg (C_M_wantEnd N) 1 1 rI T_M_wantEnd [0] (fun q lv st h => match Nat.ble 1 q with
    | true => D_M_wantEnd N n q lv st h
    | false => none) 400 true 0 [(0, .inr (.inr (0, 12, 68)))] [] h = f_M_wantEnd N h := (rfl)
def T_M_nameHere : List (List (Option RW)) := [
  [some (.aload_n 0, 1, [0], 0, 0), some (.getfield 223, 3, [12, 10, 0], 0, 0), none, none, some (.iconst 2, 1, [], 2, 0), some (.if_icmp .ne 25, 3, [30], 0, 0), none, none, some (.aload_n 0, 1, [0], 0, 0), some (.getfield 211, 3, [12, 12, 0], 0, 0), none, none, some (.aload_n 0, 1, [0], 0, 0), some (.getfield 217, 3, [12, 11, 0], 0, 0), none, none, some (.isub, 1, [], 0, 0), some (.bipush 8, 2, [], 8, 0), none, some (.if_icmp .gt 11, 3, [30], 0, 0), none, none, some (.aload_n 0, 1, [0], 0, 0), some (.invokevirtual 257, 3, [0, 185, 1, 0], 0, 0), none, none, some (.iconst (-1), 1, [], (-1), 0), some (.if_icmp .eq 7, 3, [34], 0, 0), none, none, some (.ldc2_w 199, 3, [], 0, (-1)), none],
  [none, some (.lreturn, 1, [], 0, 0), some (.lconst 0, 1, [], 0, 0), some (.lstore_n 1, 1, [1], 0, 0), some (.aload_n 0, 1, [0], 0, 0), some (.getfield 217, 3, [12, 11, 0], 0, 0), none, none, some (.istore_n 3, 1, [3], 0, 0), some (.iload_n 3, 1, [3], 0, 0), some (.aload_n 0, 1, [0], 0, 0), some (.getfield 211, 3, [12, 12, 0], 0, 0), none, none, some (.if_icmp .ge 21, 3, [67], 0, 0), none, none, some (.lload_n 1, 1, [1], 0, 0), some (.bipush 8, 2, [], 8, 0), none, some (.lshl, 1, [], 0, 0), some (.aload_n 0, 1, [0], 0, 0), some (.iload_n 3, 1, [3], 0, 0), some (.invokevirtual 214, 3, [0, 180, 2, 0], 0, 0), none, none, some (.i2l, 1, [], 0, 0), some (.lor, 1, [], 0, 0), some (.lstore_n 1, 1, [1], 0, 0), some (.iinc 3 1, 3, [3], 1, 0), none, none],
  [some (.goto (-23), 3, [41], 0, 0), none, none, some (.lload_n 1, 1, [1], 0, 0), some (.lreturn, 1, [], 0, 0)]]
def F_M_nameHere_41 (N : Nat) (bk : (Int64 → Int32 → MH → Option (Int64 × MH))) (a1 : Int64) (a3 : Int32) (h : MH) : Option (Int64 × MH) :=
  if (gI h 68 12) ≤ a3 then
  (some (a1, h))
  else
  ((f_M_at N a3 h).bind (fun x3 =>
  let v4 : Int64 := (a1 <<< (Int32.toInt64 8 &&& 63)) ||| x3.1.toInt64
  let v5 : Int32 := a3 + 1
  bk v4 v5 x3.2))
def F_M_nameHere_0 (N : Nat) (bk : (Int64 → Int32 → MH → Option (Int64 × MH))) (h : MH) : Option (Int64 × MH) :=
  if (gI h 68 10) = 2 then
  (if 8 < ((gI h 68 12) - (gI h 68 11)) then
  (some ((-1), h))
  else
  ((f_M_key N h).bind (fun x1 =>
  if x1.1 = ((-1)) then
  (let v2 : Int32 := gI x1.2 68 11
  F_M_nameHere_41 N bk 0 v2 x1.2)
  else
  (some ((-1), x1.2)))))
  else
  (some ((-1), h))
def L_M_nameHere (N : Nat) : Nat → (Int64 → Int32 → MH → Option (Int64 × MH))
  | 0 => fun _ _ _ => none
  | n + 1 => F_M_nameHere_41 N (L_M_nameHere N n)
def f_M_nameHere (N : Nat) (h : MH) : Option (Int64 × MH) := F_M_nameHere_0 N (L_M_nameHere N N) h
def C_M_nameHere (N : Nat) : MC := (KDL, false, (fun _ => 0), jsB, (fun j => match Nat.beq j 180 with
    | true => w_M_at (f_M_at N)
    | false => match Nat.beq j 185 with
    | true => w_M_key (f_M_key N)
    | false => fun _ _ => none), (fun _ _ _ => none), (fun _ _ _ => none), (fun _ _ _ => none))
def D_M_nameHere (N : Nat) (n pc : Nat) (lv : ML) (st : List MV) (h : MH) : Option (Int64 × MH) :=
  match Nat.beq pc 0 with
  | true => (match lk lv 0, st with
    | some (.inr (.inr (0, 12, 68))), [] => F_M_nameHere_0 N (L_M_nameHere N n) h
    | _, _ => none)
  | false => match Nat.beq pc 41 with
  | true => (match lk lv 0, lk lv 1, lk lv 3, st with
    | some (.inr (.inr (0, 12, 68))), some (.inr (.inl a1)), some (.inl a3), [] => F_M_nameHere_41 N (L_M_nameHere N n) a1 a3 h
    | _, _, _, _ => none)
  | false => none
def B_M_nameHere (N : Nat) (n pc : Nat) (lv : ML) (st : List MV) (h : MH) : Option (Int64 × MH) :=
  match Nat.beq pc 41 with
  | true => (match lk lv 0, lk lv 1, lk lv 3, st with
    | some (.inr (.inr (0, 12, 68))), some (.inr (.inl a1)), some (.inl a3), [] => ((L_M_nameHere N n)) a1 a3 h
    | _, _, _, _ => none)
  | false => none
set_option maxRecDepth 1000000 in
theorem E_M_nameHere_0 (N : Nat) (n : Nat) (h : MH) : seg (C_M_nameHere N) 4 0 rJ T_M_nameHere [0, 41] (fun q lv st h => match Nat.ble 1 q with
    | true => D_M_nameHere N n q lv st h
    | false => B_M_nameHere N n q lv st h) 400 true 0 [(0, .inr (.inr (0, 12, 68)))] [] h = F_M_nameHere_0 N (L_M_nameHere N n) h := (rfl)
set_option maxRecDepth 1000000 in
theorem E_M_nameHere_41 (N : Nat) (n : Nat) (a1 : Int64) (a3 : Int32) (h : MH) : seg (C_M_nameHere N) 4 0 rJ T_M_nameHere [0, 41] (fun q lv st h => match Nat.ble 42 q with
    | true => D_M_nameHere N n q lv st h
    | false => B_M_nameHere N n q lv st h) 400 true 41 [(0, .inr (.inr (0, 12, 68))), (1, .inr (.inl a1)), (3, .inl a3)] [] h = F_M_nameHere_41 N (L_M_nameHere N n) a1 a3 h := (rfl)
def T_M_sheetOf : List (List (Option RW)) := [
  [some (.iconst 0, 1, [], 0, 0), some (.istore_n 3, 1, [3], 0, 0), some (.iload_n 3, 1, [3], 0, 0), some (.aload_n 0, 1, [0], 0, 0), some (.getfield 269, 3, [12, 28, 0], 0, 0), none, none, some (.if_icmp .ge 22, 3, [29], 0, 0), none, none, some (.aload_n 0, 1, [0], 0, 0), some (.getfield 38, 3, [12, 17, 2, 2, 6, 6], 0, 0), none, none, some (.iload_n 3, 1, [3], 0, 0), some (.laload, 1, [], 0, 0), some (.lload_n 1, 1, [1], 0, 0), some (.lcmp, 1, [], 0, 0), some (.ifCond .ne 5, 3, [23], 0, 0), none, none, some (.iload_n 3, 1, [3], 0, 0), some (.ireturn, 1, [], 0, 0), some (.iinc 3 1, 3, [3], 1, 0), none, none, some (.goto (-24), 3, [2], 0, 0), none, none, some (.iconst (-1), 1, [], (-1), 0), some (.ireturn, 1, [], 0, 0)]]
def F_M_sheetOf_2 (N : Nat) (bk : (Int64 → Int32 → MH → Option (Int32 × MH))) (a1 : Int64) (a3 : Int32) (h : MH) : Option (Int32 × MH) :=
  if (gI h 68 28) ≤ a3 then
  (some ((-1), h))
  else
  (if inB a3 6 = true then
  (if (lg_cmp (gJ h 74 (iN a3)) a1) = 0 then
  (some (a3, h))
  else
  (let v1 : Int32 := a3 + 1
  bk a1 v1 h))
  else none)
def F_M_sheetOf_0 (N : Nat) (bk : (Int64 → Int32 → MH → Option (Int32 × MH))) (a1 : Int64) (h : MH) : Option (Int32 × MH) :=
  F_M_sheetOf_2 N bk a1 0 h
def L_M_sheetOf (N : Nat) : Nat → (Int64 → Int32 → MH → Option (Int32 × MH))
  | 0 => fun _ _ _ => none
  | n + 1 => F_M_sheetOf_2 N (L_M_sheetOf N n)
def f_M_sheetOf (N : Nat) (a1 : Int64) (h : MH) : Option (Int32 × MH) := F_M_sheetOf_0 N (L_M_sheetOf N N) a1 h
def C_M_sheetOf (N : Nat) : MC := (KDL, false, (fun _ => 0), jsB, (fun _ _ _ => none), (fun _ _ _ => none), (fun _ _ _ => none), (fun _ _ _ => none))
def D_M_sheetOf (N : Nat) (n pc : Nat) (lv : ML) (st : List MV) (h : MH) : Option (Int32 × MH) :=
  match Nat.beq pc 0 with
  | true => (match lk lv 0, lk lv 1, st with
    | some (.inr (.inr (0, 12, 68))), some (.inr (.inl a1)), [] => F_M_sheetOf_0 N (L_M_sheetOf N n) a1 h
    | _, _, _ => none)
  | false => match Nat.beq pc 2 with
  | true => (match lk lv 0, lk lv 1, lk lv 3, st with
    | some (.inr (.inr (0, 12, 68))), some (.inr (.inl a1)), some (.inl a3), [] => F_M_sheetOf_2 N (L_M_sheetOf N n) a1 a3 h
    | _, _, _, _ => none)
  | false => none
def B_M_sheetOf (N : Nat) (n pc : Nat) (lv : ML) (st : List MV) (h : MH) : Option (Int32 × MH) :=
  match Nat.beq pc 2 with
  | true => (match lk lv 0, lk lv 1, lk lv 3, st with
    | some (.inr (.inr (0, 12, 68))), some (.inr (.inl a1)), some (.inl a3), [] => ((L_M_sheetOf N n)) a1 a3 h
    | _, _, _, _ => none)
  | false => none
set_option maxRecDepth 1000000 in
theorem E_M_sheetOf_0 (N : Nat) (n : Nat) (a1 : Int64) (h : MH) : seg (C_M_sheetOf N) 4 0 rI T_M_sheetOf [0, 2] (fun q lv st h => match Nat.ble 1 q with
    | true => D_M_sheetOf N n q lv st h
    | false => B_M_sheetOf N n q lv st h) 400 true 0 [(0, .inr (.inr (0, 12, 68))), (1, .inr (.inl a1))] [] h = F_M_sheetOf_0 N (L_M_sheetOf N n) a1 h := (rfl)
set_option maxRecDepth 1000000 in
theorem E_M_sheetOf_2 (N : Nat) (n : Nat) (a1 : Int64) (a3 : Int32) (h : MH) : seg (C_M_sheetOf N) 4 0 rI T_M_sheetOf [0, 2] (fun q lv st h => match Nat.ble 3 q with
    | true => D_M_sheetOf N n q lv st h
    | false => B_M_sheetOf N n q lv st h) 400 true 2 [(0, .inr (.inr (0, 12, 68))), (1, .inr (.inl a1)), (3, .inl a3)] [] h = F_M_sheetOf_2 N (L_M_sheetOf N n) a1 a3 h := (rfl)
def T_M_markOf : List (List (Option RW)) := [
  [some (.iconst 0, 1, [], 0, 0), some (.istore_n 3, 1, [3], 0, 0), some (.iload_n 3, 1, [3], 0, 0), some (.aload_n 0, 1, [0], 0, 0), some (.getfield 272, 3, [12, 30, 0], 0, 0), none, none, some (.if_icmp .ge 22, 3, [29], 0, 0), none, none, some (.aload_n 0, 1, [0], 0, 0), some (.getfield 41, 3, [12, 18, 2, 2, 8, 7], 0, 0), none, none, some (.iload_n 3, 1, [3], 0, 0), some (.laload, 1, [], 0, 0), some (.lload_n 1, 1, [1], 0, 0), some (.lcmp, 1, [], 0, 0), some (.ifCond .ne 5, 3, [23], 0, 0), none, none, some (.iload_n 3, 1, [3], 0, 0), some (.ireturn, 1, [], 0, 0), some (.iinc 3 1, 3, [3], 1, 0), none, none, some (.goto (-24), 3, [2], 0, 0), none, none, some (.iconst (-1), 1, [], (-1), 0), some (.ireturn, 1, [], 0, 0)]]
def F_M_markOf_2 (N : Nat) (bk : (Int64 → Int32 → MH → Option (Int32 × MH))) (a1 : Int64) (a3 : Int32) (h : MH) : Option (Int32 × MH) :=
  if (gI h 68 30) ≤ a3 then
  (some ((-1), h))
  else
  (if inB a3 8 = true then
  (if (lg_cmp (gJ h 75 (iN a3)) a1) = 0 then
  (some (a3, h))
  else
  (let v1 : Int32 := a3 + 1
  bk a1 v1 h))
  else none)
def F_M_markOf_0 (N : Nat) (bk : (Int64 → Int32 → MH → Option (Int32 × MH))) (a1 : Int64) (h : MH) : Option (Int32 × MH) :=
  F_M_markOf_2 N bk a1 0 h
def L_M_markOf (N : Nat) : Nat → (Int64 → Int32 → MH → Option (Int32 × MH))
  | 0 => fun _ _ _ => none
  | n + 1 => F_M_markOf_2 N (L_M_markOf N n)
def f_M_markOf (N : Nat) (a1 : Int64) (h : MH) : Option (Int32 × MH) := F_M_markOf_0 N (L_M_markOf N N) a1 h
def C_M_markOf (N : Nat) : MC := (KDL, false, (fun _ => 0), jsB, (fun _ _ _ => none), (fun _ _ _ => none), (fun _ _ _ => none), (fun _ _ _ => none))
def D_M_markOf (N : Nat) (n pc : Nat) (lv : ML) (st : List MV) (h : MH) : Option (Int32 × MH) :=
  match Nat.beq pc 0 with
  | true => (match lk lv 0, lk lv 1, st with
    | some (.inr (.inr (0, 12, 68))), some (.inr (.inl a1)), [] => F_M_markOf_0 N (L_M_markOf N n) a1 h
    | _, _, _ => none)
  | false => match Nat.beq pc 2 with
  | true => (match lk lv 0, lk lv 1, lk lv 3, st with
    | some (.inr (.inr (0, 12, 68))), some (.inr (.inl a1)), some (.inl a3), [] => F_M_markOf_2 N (L_M_markOf N n) a1 a3 h
    | _, _, _, _ => none)
  | false => none
def B_M_markOf (N : Nat) (n pc : Nat) (lv : ML) (st : List MV) (h : MH) : Option (Int32 × MH) :=
  match Nat.beq pc 2 with
  | true => (match lk lv 0, lk lv 1, lk lv 3, st with
    | some (.inr (.inr (0, 12, 68))), some (.inr (.inl a1)), some (.inl a3), [] => ((L_M_markOf N n)) a1 a3 h
    | _, _, _, _ => none)
  | false => none
set_option maxRecDepth 1000000 in
theorem E_M_markOf_0 (N : Nat) (n : Nat) (a1 : Int64) (h : MH) : seg (C_M_markOf N) 4 0 rI T_M_markOf [0, 2] (fun q lv st h => match Nat.ble 1 q with
    | true => D_M_markOf N n q lv st h
    | false => B_M_markOf N n q lv st h) 400 true 0 [(0, .inr (.inr (0, 12, 68))), (1, .inr (.inl a1))] [] h = F_M_markOf_0 N (L_M_markOf N n) a1 h := (rfl)
set_option maxRecDepth 1000000 in
theorem E_M_markOf_2 (N : Nat) (n : Nat) (a1 : Int64) (a3 : Int32) (h : MH) : seg (C_M_markOf N) 4 0 rI T_M_markOf [0, 2] (fun q lv st h => match Nat.ble 3 q with
    | true => D_M_markOf N n q lv st h
    | false => B_M_markOf N n q lv st h) 400 true 2 [(0, .inr (.inr (0, 12, 68))), (1, .inr (.inl a1)), (3, .inl a3)] [] h = F_M_markOf_2 N (L_M_markOf N n) a1 a3 h := (rfl)
def T_M_number : List (List (Option RW)) := [
  [some (.aload_n 0, 1, [0], 0, 0), some (.getfield 223, 3, [12, 10, 0], 0, 0), none, none, some (.iconst 3, 1, [], 3, 0), some (.if_icmp .eq 9, 3, [14], 0, 0), none, none, some (.aload_n 0, 1, [0], 0, 0), some (.iconst 2, 1, [], 2, 0), some (.invokevirtual 260, 3, [0, 186, 2, 0], 0, 0), none, none, some (.ireturn, 1, [], 0, 0), some (.aload_n 0, 1, [0], 0, 0), some (.getfield 220, 3, [12, 13, 0], 0, 0), none, none, some (.iload_n 1, 1, [1], 0, 0), some (.if_icmp .lt 11, 3, [30], 0, 0), none, none, some (.aload_n 0, 1, [0], 0, 0), some (.getfield 220, 3, [12, 13, 0], 0, 0), none, none, some (.iload_n 2, 1, [2], 0, 0), some (.if_icmp .le 9, 3, [36], 0, 0), none, none, some (.aload_n 0, 1, [0], 0, 0), some (.iconst 4, 1, [], 4, 0)],
  [some (.invokevirtual 260, 3, [0, 186, 2, 0], 0, 0), none, none, some (.ireturn, 1, [], 0, 0), some (.aload_n 0, 1, [0], 0, 0), some (.aload_n 0, 1, [0], 0, 0), some (.getfield 220, 3, [12, 13, 0], 0, 0), none, none, some (.putfield 275, 3, [12, 39, 0], 0, 0), none, none, some (.aload_n 0, 1, [0], 0, 0), some (.invokevirtual 263, 3, [0, 183, 1, 3], 0, 0), none, none, some (.iconst 1, 1, [], 1, 0), some (.ireturn, 1, [], 0, 0)]]
def f_M_number (N : Nat) (a1 : Int32) (a2 : Int32) (h : MH) : Option (Int32 × MH) :=
  if (gI h 68 10) = 3 then
  (if (gI h 68 13) < a1 then
  ((f_M_fails N 4 h).bind (fun x1 =>
  match narOK 1 x1.1 with
  | true => some (x1.1, x1.2)
  | false => none))
  else
  (if (gI h 68 13) ≤ a2 then
  (let h2 : MH := sI h 68 39 (gI h 68 13)
  (f_M_next N h2).bind (fun x3 =>
  some (1, x3)))
  else
  ((f_M_fails N 4 h).bind (fun x4 =>
  match narOK 1 x4.1 with
  | true => some (x4.1, x4.2)
  | false => none))))
  else
  ((f_M_fails N 2 h).bind (fun x5 =>
  match narOK 1 x5.1 with
  | true => some (x5.1, x5.2)
  | false => none))
def C_M_number (N : Nat) : MC := (KDL, false, (fun _ => 0), jsB, (fun j => match Nat.beq j 186 with
    | true => w_M_fails (f_M_fails N)
    | false => fun _ _ => none), (fun _ _ _ => none), (fun _ _ _ => none), (fun j => match Nat.beq j 183 with
    | true => w_M_next (f_M_next N)
    | false => fun _ _ => none))
def D_M_number (N : Nat) (n pc : Nat) (lv : ML) (st : List MV) (h : MH) : Option (Int32 × MH) :=
  match Nat.beq pc 0 with
  | true => (match lk lv 0, lk lv 1, lk lv 2, st with
    | some (.inr (.inr (0, 12, 68))), some (.inl a1), some (.inl a2), [] => f_M_number N a1 a2 h
    | _, _, _, _ => none)
  | false => none
set_option maxRecDepth 1000000 in
theorem E_M_number_0 (N : Nat) (n : Nat) (a1 : Int32) (a2 : Int32) (h : MH) : seg (C_M_number N) 3 1 rI T_M_number [0] (fun q lv st h => match Nat.ble 1 q with
    | true => D_M_number N n q lv st h
    | false => none) 400 true 0 [(0, .inr (.inr (0, 12, 68))), (1, .inl a1), (2, .inl a2)] [] h = f_M_number N a1 a2 h := (rfl)
