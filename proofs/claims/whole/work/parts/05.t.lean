def T_Walk_begin : List (List (Option RW)) := [
  [some (.aload_n 0, 1, [0], 0, 0), some (.iload_n 1, 1, [1], 0, 0), some (.putfield 9, 3, [10, 0, 0], 0, 0), none, none, some (.aload_n 0, 1, [0], 0, 0), some (.iload_n 2, 1, [2], 0, 0), some (.putfield 15, 3, [10, 1, 0], 0, 0), none, none, some (.aload_n 0, 1, [0], 0, 0), some (.iload_n 3, 1, [3], 0, 0), some (.putfield 18, 3, [10, 2, 0], 0, 0), none, none, some (.aload_n 0, 1, [0], 0, 0), some (.iconst 0, 1, [], 0, 0), some (.putfield 25, 3, [10, 4, 0], 0, 0), none, none, some (.aload_n 0, 1, [0], 0, 0), some (.iconst 0, 1, [], 0, 0), some (.putfield 28, 3, [10, 5, 0], 0, 0), none, none, some (.return_, 1, [], 0, 0)]]
def f_Walk_begin (N : Nat) (a1 : Int32) (a2 : Int32) (a3 : Int32) (h : MH) : Option (MH) :=
  let h1 : MH := sI h 42 0 a1
  let h2 : MH := sI h1 42 1 a2
  let h3 : MH := sI h2 42 2 a3
  let h4 : MH := sI h3 42 4 0
  let h5 : MH := sI h4 42 5 0
  some h5
def C_Walk_begin (N : Nat) : MC := (KDL, false, (fun _ => 0), jsB, (fun _ _ _ => none), (fun _ _ _ => none), (fun _ _ _ => none), (fun _ _ _ => none))
def D_Walk_begin (N : Nat) (n pc : Nat) (lv : ML) (st : List MV) (h : MH) : Option (MH) :=
  match Nat.beq pc 0 with
  | true => (match lk lv 0, lk lv 1, lk lv 2, lk lv 3, st with
    | some (.inr (.inr (0, 10, 42))), some (.inl a1), some (.inl a2), some (.inl a3), [] => f_Walk_begin N a1 a2 a3 h
    | _, _, _, _, _ => none)
  | false => none
set_option maxRecDepth 1000000 in
theorem E_Walk_begin_0 (N : Nat) (n : Nat) (a1 : Int32) (a2 : Int32) (a3 : Int32) (h : MH) : seg (C_Walk_begin N) 4 0 rV T_Walk_begin [0] (fun q lv st h => match Nat.ble 1 q with
    | true => D_Walk_begin N n q lv st h
    | false => none) 400 true 0 [(0, .inr (.inr (0, 10, 42))), (1, .inl a1), (2, .inl a2), (3, .inl a3)] [] h = f_Walk_begin N a1 a2 a3 h := (rfl)
def T_Walk_isLoose : List (List (Option RW)) := [
  [some (.aload_n 0, 1, [0], 0, 0), some (.getfield 9, 3, [10, 0, 0], 0, 0), none, none, some (.bipush 9, 2, [], 9, 0), none, some (.if_icmp .lt 5, 3, [11], 0, 0), none, none, some (.iconst 1, 1, [], 1, 0), some (.ireturn, 1, [], 0, 0), some (.iload_n 2, 1, [2], 0, 0), some (.istore_n 3, 1, [3], 0, 0), some (.iload_n 3, 1, [3], 0, 0), some (.aload_n 1, 1, [1], 0, 0), some (.getfield 76, 3, [0, 0, 0], 0, 0), none, none, some (.if_icmp .ge 20, 3, [38], 0, 0), none, none, some (.aload_n 1, 1, [1], 0, 0), some (.getfield 101, 3, [0, 4, 2, 1, 6, 2], 0, 0), none, none, some (.iload_n 3, 1, [3], 0, 0), some (.iaload, 1, [], 0, 0), some (.ifCond .eq 5, 3, [32], 0, 0), none, none, some (.iconst 0, 1, [], 0, 0), some (.ireturn, 1, [], 0, 0)],
  [some (.iinc 3 1, 3, [3], 1, 0), none, none, some (.goto (-22), 3, [13], 0, 0), none, none, some (.iconst 1, 1, [], 1, 0), some (.ireturn, 1, [], 0, 0)]]
def F_Walk_isLoose_13 (N : Nat) (bk : (Int32 → MH → Option (Int32 × MH))) (a3 : Int32) (h : MH) : Option (Int32 × MH) :=
  if (gI h 33 0) ≤ a3 then
  (some (1, h))
  else
  (if inB a3 6 = true then
  (if (gI h 35 (iN a3)) = 0 then
  (let v1 : Int32 := a3 + 1
  bk v1 h)
  else
  (some (0, h)))
  else none)
def F_Walk_isLoose_0 (N : Nat) (bk : (Int32 → MH → Option (Int32 × MH))) (a2 : Int32) (h : MH) : Option (Int32 × MH) :=
  if (gI h 42 0) < 9 then
  (F_Walk_isLoose_13 N bk a2 h)
  else
  (some (1, h))
def L_Walk_isLoose (N : Nat) : Nat → (Int32 → MH → Option (Int32 × MH))
  | 0 => fun _ _ => none
  | n + 1 => F_Walk_isLoose_13 N (L_Walk_isLoose N n)
def f_Walk_isLoose (N : Nat) (a2 : Int32) (h : MH) : Option (Int32 × MH) := F_Walk_isLoose_0 N (L_Walk_isLoose N N) a2 h
def C_Walk_isLoose (N : Nat) : MC := (KDL, false, (fun _ => 0), jsB, (fun _ _ _ => none), (fun _ _ _ => none), (fun _ _ _ => none), (fun _ _ _ => none))
def D_Walk_isLoose (N : Nat) (n pc : Nat) (lv : ML) (st : List MV) (h : MH) : Option (Int32 × MH) :=
  match Nat.beq pc 0 with
  | true => (match lk lv 0, lk lv 1, lk lv 2, st with
    | some (.inr (.inr (0, 10, 42))), some (.inr (.inr (0, 0, 33))), some (.inl a2), [] => F_Walk_isLoose_0 N (L_Walk_isLoose N n) a2 h
    | _, _, _, _ => none)
  | false => match Nat.beq pc 13 with
  | true => (match lk lv 1, lk lv 3, st with
    | some (.inr (.inr (0, 0, 33))), some (.inl a3), [] => F_Walk_isLoose_13 N (L_Walk_isLoose N n) a3 h
    | _, _, _ => none)
  | false => none
def B_Walk_isLoose (N : Nat) (n pc : Nat) (lv : ML) (st : List MV) (h : MH) : Option (Int32 × MH) :=
  match Nat.beq pc 13 with
  | true => (match lk lv 1, lk lv 3, st with
    | some (.inr (.inr (0, 0, 33))), some (.inl a3), [] => ((L_Walk_isLoose N n)) a3 h
    | _, _, _ => none)
  | false => none
set_option maxRecDepth 1000000 in
theorem E_Walk_isLoose_0 (N : Nat) (n : Nat) (a2 : Int32) (h : MH) : seg (C_Walk_isLoose N) 4 1 rI T_Walk_isLoose [0, 13] (fun q lv st h => match Nat.ble 1 q with
    | true => D_Walk_isLoose N n q lv st h
    | false => B_Walk_isLoose N n q lv st h) 400 true 0 [(0, .inr (.inr (0, 10, 42))), (1, .inr (.inr (0, 0, 33))), (2, .inl a2)] [] h = F_Walk_isLoose_0 N (L_Walk_isLoose N n) a2 h := (rfl)
set_option maxRecDepth 1000000 in
theorem E_Walk_isLoose_13 (N : Nat) (n : Nat) (a3 : Int32) (h : MH) : seg (C_Walk_isLoose N) 4 1 rI T_Walk_isLoose [0, 13] (fun q lv st h => match Nat.ble 14 q with
    | true => D_Walk_isLoose N n q lv st h
    | false => B_Walk_isLoose N n q lv st h) 400 true 13 [(1, .inr (.inr (0, 0, 33))), (3, .inl a3)] [] h = F_Walk_isLoose_13 N (L_Walk_isLoose N n) a3 h := (rfl)
def T_Math_floorDiv : List (List (Option RW)) := [
  [some (.iload_n 0, 1, [0], 0, 0), some (.iload_n 1, 1, [1], 0, 0), some (.idiv, 1, [], 0, 0), some (.istore_n 2, 1, [2], 0, 0), some (.iload_n 0, 1, [0], 0, 0), some (.iload_n 1, 1, [1], 0, 0), some (.ixor, 1, [], 0, 0), some (.ifCond .ge 14, 3, [21], 0, 0), none, none, some (.iload_n 2, 1, [2], 0, 0), some (.iload_n 1, 1, [1], 0, 0), some (.imul, 1, [], 0, 0), some (.iload_n 0, 1, [0], 0, 0), some (.if_icmp .eq 7, 3, [21], 0, 0), none, none, some (.iload_n 2, 1, [2], 0, 0), some (.iconst 1, 1, [], 1, 0), some (.isub, 1, [], 0, 0), some (.ireturn, 1, [], 0, 0), some (.iload_n 2, 1, [2], 0, 0), some (.ireturn, 1, [], 0, 0)]]
def f_Math_floorDiv (N : Nat) (a0 : Int32) (a1 : Int32) (h : MH) : Option (Int32 × MH) :=
  if a1 = 0 then none else
  let v1 : Int32 := a0 / a1
  if 0 ≤ (a0 ^^^ a1) then
  (some (v1, h))
  else
  (if (v1 * a1) = a0 then
  (some (v1, h))
  else
  (some (v1 - 1, h)))
def C_Math_floorDiv (N : Nat) : MC := (KDL, false, (fun _ => 0), jsB, (fun _ _ _ => none), (fun _ _ _ => none), (fun _ _ _ => none), (fun _ _ _ => none))
def D_Math_floorDiv (N : Nat) (n pc : Nat) (lv : ML) (st : List MV) (h : MH) : Option (Int32 × MH) :=
  match Nat.beq pc 0 with
  | true => (match lk lv 0, lk lv 1, st with
    | some (.inl a0), some (.inl a1), [] => f_Math_floorDiv N a0 a1 h
    | _, _, _ => none)
  | false => none
set_option maxRecDepth 1000000 in
theorem E_Math_floorDiv_0 (N : Nat) (n : Nat) (a0 : Int32) (a1 : Int32) (h : MH) : seg (C_Math_floorDiv N) 3 0 rI T_Math_floorDiv [0] (fun q lv st h => match Nat.ble 1 q with
    | true => D_Math_floorDiv N n q lv st h
    | false => none) 400 true 0 [(0, .inl a0), (1, .inl a1)] [] h = f_Math_floorDiv N a0 a1 h := (rfl)
def T_Walk_narrowBy : List (List (Option RW)) := [
  [some (.iload_n 2, 1, [2], 0, 0), some (.ifCond .le 49, 3, [50], 0, 0), none, none, some (.aload_n 0, 1, [0], 0, 0), some (.getfield 41, 3, [10, 9, 2, 1, 6, 2], 0, 0), none, none, some (.iload_n 1, 1, [1], 0, 0), some (.aload_n 0, 1, [0], 0, 0), some (.getfield 41, 3, [10, 9, 2, 1, 6, 2], 0, 0), none, none, some (.iload_n 1, 1, [1], 0, 0), some (.iaload, 1, [], 0, 0), some (.iload_n 3, 1, [3], 0, 0), some (.ineg, 1, [], 0, 0), some (.iload_n 2, 1, [2], 0, 0), some (.invokestatic 135, 3, [2, 257, 2, 0], 0, 0), none, none, some (.ineg, 1, [], 0, 0), some (.invokestatic 140, 3, [2, 260, 2, 0], 0, 0), none, none, some (.iastore, 1, [], 0, 0), some (.aload_n 0, 1, [0], 0, 0), some (.getfield 44, 3, [10, 10, 2, 1, 6, 3], 0, 0), none, none, some (.iload_n 1, 1, [1], 0, 0), some (.aload_n 0, 1, [0], 0, 0)],
  [some (.getfield 44, 3, [10, 10, 2, 1, 6, 3], 0, 0), none, none, some (.iload_n 1, 1, [1], 0, 0), some (.iaload, 1, [], 0, 0), some (.iload 4, 2, [4], 0, 0), none, some (.iload_n 2, 1, [2], 0, 0), some (.invokestatic 135, 3, [2, 257, 2, 0], 0, 0), none, none, some (.invokestatic 143, 3, [2, 261, 2, 0], 0, 0), none, none, some (.iastore, 1, [], 0, 0), some (.goto 71, 3, [118], 0, 0), none, none, some (.iload_n 2, 1, [2], 0, 0), some (.ifCond .ge 51, 3, [102], 0, 0), none, none, some (.aload_n 0, 1, [0], 0, 0), some (.getfield 41, 3, [10, 9, 2, 1, 6, 2], 0, 0), none, none, some (.iload_n 1, 1, [1], 0, 0), some (.aload_n 0, 1, [0], 0, 0), some (.getfield 41, 3, [10, 9, 2, 1, 6, 2], 0, 0), none, none, some (.iload_n 1, 1, [1], 0, 0)],
  [some (.iaload, 1, [], 0, 0), some (.iload 4, 2, [4], 0, 0), none, some (.iload_n 2, 1, [2], 0, 0), some (.ineg, 1, [], 0, 0), some (.invokestatic 135, 3, [2, 257, 2, 0], 0, 0), none, none, some (.ineg, 1, [], 0, 0), some (.invokestatic 140, 3, [2, 260, 2, 0], 0, 0), none, none, some (.iastore, 1, [], 0, 0), some (.aload_n 0, 1, [0], 0, 0), some (.getfield 44, 3, [10, 10, 2, 1, 6, 3], 0, 0), none, none, some (.iload_n 1, 1, [1], 0, 0), some (.aload_n 0, 1, [0], 0, 0), some (.getfield 44, 3, [10, 10, 2, 1, 6, 3], 0, 0), none, none, some (.iload_n 1, 1, [1], 0, 0), some (.iaload, 1, [], 0, 0), some (.iload_n 3, 1, [3], 0, 0), some (.ineg, 1, [], 0, 0), some (.iload_n 2, 1, [2], 0, 0), some (.ineg, 1, [], 0, 0), some (.invokestatic 135, 3, [2, 257, 2, 0], 0, 0), none, none, some (.invokestatic 143, 3, [2, 261, 2, 0], 0, 0)],
  [none, none, some (.iastore, 1, [], 0, 0), some (.goto 19, 3, [118], 0, 0), none, none, some (.iload_n 3, 1, [3], 0, 0), some (.ifCond .gt 8, 3, [111], 0, 0), none, none, some (.iload 4, 2, [4], 0, 0), none, some (.ifCond .ge 10, 3, [118], 0, 0), none, none, some (.aload_n 0, 1, [0], 0, 0), some (.getfield 44, 3, [10, 10, 2, 1, 6, 3], 0, 0), none, none, some (.iload_n 1, 1, [1], 0, 0), some (.iconst (-1), 1, [], (-1), 0), some (.iastore, 1, [], 0, 0), some (.return_, 1, [], 0, 0)]]
def f_Walk_narrowBy (N : Nat) (a1 : Int32) (a2 : Int32) (a3 : Int32) (a4 : Int32) (h : MH) : Option (MH) :=
  if a2 ≤ 0 then
  (if 0 ≤ a2 then
  (if 0 < a3 then
  (if inB a1 6 = true then
  (let h1 : MH := sI h 45 (iN a1) ((-1))
  some h1)
  else none)
  else
  (if 0 ≤ a4 then
  (some h)
  else
  (if inB a1 6 = true then
  (let h2 : MH := sI h 45 (iN a1) ((-1))
  some h2)
  else none)))
  else
  (if inB a1 6 = true then
  ((f_Math_floorDiv N a4 (-a2) h).bind (fun x3 =>
  (f_Math_max N (gI h 44 (iN a1)) (-x3.1) x3.2).bind (fun x4 =>
  if inB a1 6 = true then
  (let h5 : MH := sI x4.2 44 (iN a1) x4.1
  if inB a1 6 = true then
  ((f_Math_floorDiv N (-a3) (-a2) h5).bind (fun x6 =>
  (f_Math_min_II N (gI h5 45 (iN a1)) x6.1 x6.2).bind (fun x7 =>
  if inB a1 6 = true then
  (let h8 : MH := sI x7.2 45 (iN a1) x7.1
  some h8)
  else none)))
  else none)
  else none)))
  else none))
  else
  (if inB a1 6 = true then
  ((f_Math_floorDiv N (-a3) a2 h).bind (fun x9 =>
  (f_Math_max N (gI h 44 (iN a1)) (-x9.1) x9.2).bind (fun x10 =>
  if inB a1 6 = true then
  (let h11 : MH := sI x10.2 44 (iN a1) x10.1
  if inB a1 6 = true then
  ((f_Math_floorDiv N a4 a2 h11).bind (fun x12 =>
  (f_Math_min_II N (gI h11 45 (iN a1)) x12.1 x12.2).bind (fun x13 =>
  if inB a1 6 = true then
  (let h14 : MH := sI x13.2 45 (iN a1) x13.1
  some h14)
  else none)))
  else none)
  else none)))
  else none)
def C_Walk_narrowBy (N : Nat) : MC := (KDL, false, (fun _ => 0), jsB, (fun j => match Nat.beq j 257 with
    | true => w_Math_floorDiv (f_Math_floorDiv N)
    | false => match Nat.beq j 260 with
    | true => w_Math_max (f_Math_max N)
    | false => match Nat.beq j 261 with
    | true => w_Math_min_II (f_Math_min_II N)
    | false => fun _ _ => none), (fun _ _ _ => none), (fun _ _ _ => none), (fun _ _ _ => none))
def D_Walk_narrowBy (N : Nat) (n pc : Nat) (lv : ML) (st : List MV) (h : MH) : Option (MH) :=
  match Nat.beq pc 0 with
  | true => (match lk lv 0, lk lv 1, lk lv 2, lk lv 3, lk lv 4, st with
    | some (.inr (.inr (0, 10, 42))), some (.inl a1), some (.inl a2), some (.inl a3), some (.inl a4), [] => f_Walk_narrowBy N a1 a2 a3 a4 h
    | _, _, _, _, _, _ => none)
  | false => none
set_option maxRecDepth 1000000 in
theorem E_Walk_narrowBy_0 (N : Nat) (n : Nat) (a1 : Int32) (a2 : Int32) (a3 : Int32) (a4 : Int32) (h : MH) : seg (C_Walk_narrowBy N) 5 0 rV T_Walk_narrowBy [0] (fun q lv st h => match Nat.ble 1 q with
    | true => D_Walk_narrowBy N n q lv st h
    | false => none) 400 true 0 [(0, .inr (.inr (0, 10, 42))), (1, .inl a1), (2, .inl a2), (3, .inl a3), (4, .inl a4)] [] h = f_Walk_narrowBy N a1 a2 a3 a4 h := (rfl)
def T_Walk_narrow : List (List (Option RW)) := [
  [some (.aload_n 0, 1, [0], 0, 0), some (.getfield 41, 3, [10, 9, 2, 1, 6, 2], 0, 0), none, none, some (.iload_n 2, 1, [2], 0, 0), some (.aload_n 1, 1, [1], 0, 0), some (.iload_n 2, 1, [2], 0, 0), some (.aload_n 0, 1, [0], 0, 0), some (.getfield 9, 3, [10, 0, 0], 0, 0), none, none, some (.invokevirtual 104, 3, [1, 4, 3, 0], 0, 0), none, none, some (.iastore, 1, [], 0, 0), some (.aload_n 0, 1, [0], 0, 0), some (.getfield 44, 3, [10, 10, 2, 1, 6, 3], 0, 0), none, none, some (.iload_n 2, 1, [2], 0, 0), some (.aload_n 1, 1, [1], 0, 0), some (.iload_n 2, 1, [2], 0, 0), some (.aload_n 0, 1, [0], 0, 0), some (.getfield 9, 3, [10, 0, 0], 0, 0), none, none, some (.invokevirtual 107, 3, [1, 5, 3, 0], 0, 0), none, none, some (.iastore, 1, [], 0, 0), some (.iconst 0, 1, [], 0, 0), some (.istore 4, 2, [4], 0, 0)],
  [none, some (.iload 4, 2, [4], 0, 0), none, some (.aload_n 1, 1, [1], 0, 0), some (.getfield 110, 3, [0, 1, 0], 0, 0), none, none, some (.if_icmp .ge 92, 3, [131], 0, 0), none, none, some (.iload_n 3, 1, [3], 0, 0), some (.iload 4, 2, [4], 0, 0), none, some (.ishr, 1, [], 0, 0), some (.iconst 1, 1, [], 1, 0), some (.iand, 1, [], 0, 0), some (.ifCond .eq 77, 3, [125], 0, 0), none, none, some (.iload_n 2, 1, [2], 0, 0), some (.bipush 8, 2, [], 8, 0), none, some (.imul, 1, [], 0, 0), some (.iload 4, 2, [4], 0, 0), none, some (.iadd, 1, [], 0, 0), some (.istore 5, 2, [5], 0, 0), none, some (.iload 5, 2, [5], 0, 0), none, some (.bipush 8, 2, [], 8, 0), none],
  [some (.iadd, 1, [], 0, 0), some (.istore 6, 2, [6], 0, 0), none, some (.aload_n 0, 1, [0], 0, 0), some (.iload_n 2, 1, [2], 0, 0), some (.aload_n 1, 1, [1], 0, 0), some (.getfield 113, 3, [0, 3, 2, 1, 48, 1], 0, 0), none, none, some (.iload 5, 2, [5], 0, 0), none, some (.iaload, 1, [], 0, 0), some (.aload_n 1, 1, [1], 0, 0), some (.getfield 116, 3, [0, 5, 2, 1, 8, 3], 0, 0), none, none, some (.iload 4, 2, [4], 0, 0), none, some (.iaload, 1, [], 0, 0), some (.aload_n 1, 1, [1], 0, 0), some (.getfield 119, 3, [0, 10, 2, 1, 56, 8], 0, 0), none, none, some (.iload 5, 2, [5], 0, 0), none, some (.iaload, 1, [], 0, 0), some (.isub, 1, [], 0, 0), some (.aload_n 1, 1, [1], 0, 0), some (.getfield 122, 3, [0, 8, 2, 1, 56, 6], 0, 0), none, none, some (.iload 6, 2, [6], 0, 0)],
  [none, some (.iaload, 1, [], 0, 0), some (.isub, 1, [], 0, 0), some (.aload_n 1, 1, [1], 0, 0), some (.getfield 125, 3, [0, 6, 2, 1, 8, 4], 0, 0), none, none, some (.iload 4, 2, [4], 0, 0), none, some (.iaload, 1, [], 0, 0), some (.aload_n 1, 1, [1], 0, 0), some (.getfield 119, 3, [0, 10, 2, 1, 56, 8], 0, 0), none, none, some (.iload 5, 2, [5], 0, 0), none, some (.iaload, 1, [], 0, 0), some (.isub, 1, [], 0, 0), some (.aload_n 1, 1, [1], 0, 0), some (.getfield 128, 3, [0, 7, 2, 1, 56, 5], 0, 0), none, none, some (.iload 6, 2, [6], 0, 0), none, some (.iaload, 1, [], 0, 0), some (.isub, 1, [], 0, 0), some (.invokevirtual 131, 3, [0, 98, 5, 3], 0, 0), none, none, some (.iinc 4 1, 3, [4], 1, 0), none, none],
  [some (.goto (-95), 3, [33], 0, 0), none, none, some (.return_, 1, [], 0, 0)]]
def F_Walk_narrow_33 (N : Nat) (bk : (Int32 → Int32 → Int32 → MH → Option (MH))) (a2 : Int32) (a3 : Int32) (a4 : Int32) (h : MH) : Option (MH) :=
  if (gI h 33 1) ≤ a4 then
  (some h)
  else
  (if ((a3 >>> (a4 &&& 31)) &&& 1) = 0 then
  (let v5 : Int32 := a4 + 1
  bk a2 a3 v5 h)
  else
  (let v6 : Int32 := (a2 * 8) + a4
  let v7 : Int32 := v6 + 8
  if inB v6 48 = true then
  (if inB a4 8 = true then
  (if inB v6 56 = true then
  (if inB v7 56 = true then
  (if inB a4 8 = true then
  (if inB v6 56 = true then
  (if inB v7 56 = true then
  ((f_Walk_narrowBy N a2 (gI h 34 (iN v6)) (((gI h 36 (iN a4)) - (gI h 41 (iN v6))) - (gI h 39 (iN v7))) (((gI h 37 (iN a4)) - (gI h 41 (iN v6))) - (gI h 38 (iN v7))) h).bind (fun x8 =>
  let v9 : Int32 := a4 + 1
  bk a2 a3 v9 x8))
  else none)
  else none)
  else none)
  else none)
  else none)
  else none)
  else none))
def F_Walk_narrow_0 (N : Nat) (bk : (Int32 → Int32 → Int32 → MH → Option (MH))) (a2 : Int32) (a3 : Int32) (h : MH) : Option (MH) :=
  (f_Asked_leastBeside N a2 (gI h 42 0) h).bind (fun x1 =>
  if inB a2 6 = true then
  (let h2 : MH := sI x1.2 44 (iN a2) x1.1
  (f_Asked_mostBeside N a2 (gI h2 42 0) h2).bind (fun x3 =>
  if inB a2 6 = true then
  (let h4 : MH := sI x3.2 45 (iN a2) x3.1
  F_Walk_narrow_33 N bk a2 a3 0 h4)
  else none))
  else none)
def L_Walk_narrow (N : Nat) : Nat → (Int32 → Int32 → Int32 → MH → Option (MH))
  | 0 => fun _ _ _ _ => none
  | n + 1 => F_Walk_narrow_33 N (L_Walk_narrow N n)
def f_Walk_narrow (N : Nat) (a2 : Int32) (a3 : Int32) (h : MH) : Option (MH) := F_Walk_narrow_0 N (L_Walk_narrow N N) a2 a3 h
def C_Walk_narrow (N : Nat) : MC := (KDL, false, (fun _ => 0), jsB, (fun j => match Nat.beq j 4 with
    | true => w_Asked_leastBeside (f_Asked_leastBeside N)
    | false => match Nat.beq j 5 with
    | true => w_Asked_mostBeside (f_Asked_mostBeside N)
    | false => fun _ _ => none), (fun _ _ _ => none), (fun _ _ _ => none), (fun j => match Nat.beq j 98 with
    | true => w_Walk_narrowBy (f_Walk_narrowBy N)
    | false => fun _ _ => none))
def D_Walk_narrow (N : Nat) (n pc : Nat) (lv : ML) (st : List MV) (h : MH) : Option (MH) :=
  match Nat.beq pc 0 with
  | true => (match lk lv 0, lk lv 1, lk lv 2, lk lv 3, st with
    | some (.inr (.inr (0, 10, 42))), some (.inr (.inr (0, 0, 33))), some (.inl a2), some (.inl a3), [] => F_Walk_narrow_0 N (L_Walk_narrow N n) a2 a3 h
    | _, _, _, _, _ => none)
  | false => match Nat.beq pc 33 with
  | true => (match lk lv 0, lk lv 1, lk lv 2, lk lv 3, lk lv 4, st with
    | some (.inr (.inr (0, 10, 42))), some (.inr (.inr (0, 0, 33))), some (.inl a2), some (.inl a3), some (.inl a4), [] => F_Walk_narrow_33 N (L_Walk_narrow N n) a2 a3 a4 h
    | _, _, _, _, _, _ => none)
  | false => none
def B_Walk_narrow (N : Nat) (n pc : Nat) (lv : ML) (st : List MV) (h : MH) : Option (MH) :=
  match Nat.beq pc 33 with
  | true => (match lk lv 0, lk lv 1, lk lv 2, lk lv 3, lk lv 4, st with
    | some (.inr (.inr (0, 10, 42))), some (.inr (.inr (0, 0, 33))), some (.inl a2), some (.inl a3), some (.inl a4), [] => ((L_Walk_narrow N n)) a2 a3 a4 h
    | _, _, _, _, _, _ => none)
  | false => none
set_option maxRecDepth 1000000 in
theorem E_Walk_narrow_0 (N : Nat) (n : Nat) (a2 : Int32) (a3 : Int32) (h : MH) : seg (C_Walk_narrow N) 7 0 rV T_Walk_narrow [0, 33] (fun q lv st h => match Nat.ble 1 q with
    | true => D_Walk_narrow N n q lv st h
    | false => B_Walk_narrow N n q lv st h) 400 true 0 [(0, .inr (.inr (0, 10, 42))), (1, .inr (.inr (0, 0, 33))), (2, .inl a2), (3, .inl a3)] [] h = F_Walk_narrow_0 N (L_Walk_narrow N n) a2 a3 h := (rfl)
set_option maxRecDepth 1000000 in
theorem E_Walk_narrow_33 (N : Nat) (n : Nat) (a2 : Int32) (a3 : Int32) (a4 : Int32) (h : MH) : seg (C_Walk_narrow N) 7 0 rV T_Walk_narrow [0, 33] (fun q lv st h => match Nat.ble 34 q with
    | true => D_Walk_narrow N n q lv st h
    | false => B_Walk_narrow N n q lv st h) 400 true 33 [(0, .inr (.inr (0, 10, 42))), (1, .inr (.inr (0, 0, 33))), (2, .inl a2), (3, .inl a3), (4, .inl a4)] [] h = F_Walk_narrow_33 N (L_Walk_narrow N n) a2 a3 a4 h := (rfl)
def T_Walk_noteFirst : List (List (Option RW)) := [
  [some (.aload_n 0, 1, [0], 0, 0), some (.getfield 25, 3, [10, 4, 0], 0, 0), none, none, some (.ifCond .ne 18, 3, [22], 0, 0), none, none, some (.aload_n 1, 1, [1], 0, 0), some (.getfield 159, 3, [0, 9, 2, 1, 6, 7], 0, 0), none, none, some (.iconst 0, 1, [], 0, 0), some (.aload_n 0, 1, [0], 0, 0), some (.getfield 37, 3, [10, 8, 2, 1, 6, 1], 0, 0), none, none, some (.iconst 0, 1, [], 0, 0), some (.bipush 6, 2, [], 6, 0), none, some (.invokestatic 169, 3, [9], 0, 0), none, none, some (.return_, 1, [], 0, 0)]]
def f_Walk_noteFirst (N : Nat) (h : MH) : Option (MH) :=
  if (gI h 42 4) = 0 then
  (if 0 ≤ (6 : Int32) ∧ 0 ≤ (0 : Int32) ∧ 0 ≤ (0 : Int32) ∧ iN (0 : Int32) + iN (6 : Int32) ≤ 6 ∧ iN (0 : Int32) + iN (6 : Int32) ≤ 6 then
  (let h1 : MH := cI h 40 43 (iN (0 : Int32)) (iN (0 : Int32)) (iN (6 : Int32))
  some h1)
  else none)
  else
  (some h)
def C_Walk_noteFirst (N : Nat) : MC := (KDL, false, (fun _ => 0), jsB, (fun _ _ _ => none), (fun _ _ _ => none), (fun _ _ _ => none), (fun _ _ _ => none))
def D_Walk_noteFirst (N : Nat) (n pc : Nat) (lv : ML) (st : List MV) (h : MH) : Option (MH) :=
  match Nat.beq pc 0 with
  | true => (match lk lv 0, lk lv 1, st with
    | some (.inr (.inr (0, 10, 42))), some (.inr (.inr (0, 0, 33))), [] => f_Walk_noteFirst N h
    | _, _, _ => none)
  | false => none
set_option maxRecDepth 1000000 in
theorem E_Walk_noteFirst_0 (N : Nat) (n : Nat) (h : MH) : seg (C_Walk_noteFirst N) 2 0 rV T_Walk_noteFirst [0] (fun q lv st h => match Nat.ble 1 q with
    | true => D_Walk_noteFirst N n q lv st h
    | false => none) 400 true 0 [(0, .inr (.inr (0, 10, 42))), (1, .inr (.inr (0, 0, 33)))] [] h = f_Walk_noteFirst N h := (rfl)
def T_Walk_noteEnds : List (List (Option RW)) := [
  [some (.aload_n 0, 1, [0], 0, 0), some (.aload_n 0, 1, [0], 0, 0), some (.getfield 25, 3, [10, 4, 0], 0, 0), none, none, some (.ifCond .ne 7, 3, [12], 0, 0), none, none, some (.iload_n 1, 1, [1], 0, 0), some (.goto 11, 3, [20], 0, 0), none, none, some (.aload_n 0, 1, [0], 0, 0), some (.getfield 31, 3, [10, 6, 0], 0, 0), none, none, some (.iload_n 1, 1, [1], 0, 0), some (.invokestatic 143, 3, [2, 261, 2, 0], 0, 0), none, none, some (.putfield 31, 3, [10, 6, 0], 0, 0), none, none, some (.aload_n 0, 1, [0], 0, 0), some (.aload_n 0, 1, [0], 0, 0), some (.getfield 25, 3, [10, 4, 0], 0, 0), none, none, some (.ifCond .ne 7, 3, [35], 0, 0), none, none, some (.iload_n 2, 1, [2], 0, 0)],
  [some (.goto 11, 3, [43], 0, 0), none, none, some (.aload_n 0, 1, [0], 0, 0), some (.getfield 34, 3, [10, 7, 0], 0, 0), none, none, some (.iload_n 2, 1, [2], 0, 0), some (.invokestatic 140, 3, [2, 260, 2, 0], 0, 0), none, none, some (.putfield 34, 3, [10, 7, 0], 0, 0), none, none, some (.return_, 1, [], 0, 0)]]
def F_Walk_noteEnds_20 (N : Nat) (a2 : Int32) (as0 : Int32) (h : MH) : Option (MH) :=
  let h2 : MH := sI h 42 6 as0
  if (gI h2 42 4) = 0 then
  (let h3 : MH := sI h2 42 7 a2
  some h3)
  else
  ((f_Math_max N (gI h2 42 7) a2 h2).bind (fun x4 =>
  let h5 : MH := sI x4.2 42 7 x4.1
  some h5))
def f_Walk_noteEnds (N : Nat) (a1 : Int32) (a2 : Int32) (h : MH) : Option (MH) :=
  if (gI h 42 4) = 0 then
  (F_Walk_noteEnds_20 N a2 a1 h)
  else
  ((f_Math_min_II N (gI h 42 6) a1 h).bind (fun x1 =>
  F_Walk_noteEnds_20 N a2 x1.1 x1.2))
def C_Walk_noteEnds (N : Nat) : MC := (KDL, false, (fun _ => 0), jsB, (fun j => match Nat.beq j 260 with
    | true => w_Math_max (f_Math_max N)
    | false => match Nat.beq j 261 with
    | true => w_Math_min_II (f_Math_min_II N)
    | false => fun _ _ => none), (fun _ _ _ => none), (fun _ _ _ => none), (fun _ _ _ => none))
def D_Walk_noteEnds (N : Nat) (n pc : Nat) (lv : ML) (st : List MV) (h : MH) : Option (MH) :=
  match Nat.beq pc 0 with
  | true => (match lk lv 0, lk lv 1, lk lv 2, st with
    | some (.inr (.inr (0, 10, 42))), some (.inl a1), some (.inl a2), [] => f_Walk_noteEnds N a1 a2 h
    | _, _, _, _ => none)
  | false => match Nat.beq pc 20 with
  | true => (match lk lv 0, lk lv 2, st with
    | some (.inr (.inr (0, 10, 42))), some (.inl a2), [.inl as0, .inr (.inr (0, 10, 42))] => F_Walk_noteEnds_20 N a2 as0 h
    | _, _, _ => none)
  | false => none
set_option maxRecDepth 1000000 in
theorem E_Walk_noteEnds_0 (N : Nat) (n : Nat) (a1 : Int32) (a2 : Int32) (h : MH) : seg (C_Walk_noteEnds N) 3 0 rV T_Walk_noteEnds [0, 20] (fun q lv st h => match Nat.ble 1 q with
    | true => D_Walk_noteEnds N n q lv st h
    | false => none) 400 true 0 [(0, .inr (.inr (0, 10, 42))), (1, .inl a1), (2, .inl a2)] [] h = f_Walk_noteEnds N a1 a2 h := (rfl)
set_option maxRecDepth 1000000 in
theorem E_Walk_noteEnds_20 (N : Nat) (n : Nat) (a2 : Int32) (as0 : Int32) (h : MH) : seg (C_Walk_noteEnds N) 3 0 rV T_Walk_noteEnds [0, 20] (fun q lv st h => match Nat.ble 21 q with
    | true => D_Walk_noteEnds N n q lv st h
    | false => none) 400 true 20 [(0, .inr (.inr (0, 10, 42))), (2, .inl a2)] [.inl as0, .inr (.inr (0, 10, 42))] h = F_Walk_noteEnds_20 N a2 as0 h := (rfl)
def T_Walk_takeLast : List (List (Option RW)) := [
  [some (.aload_n 0, 1, [0], 0, 0), some (.getfield 15, 3, [10, 1, 0], 0, 0), none, none, some (.iload_n 2, 1, [2], 0, 0), some (.ishr, 1, [], 0, 0), some (.iconst 1, 1, [], 1, 0), some (.iand, 1, [], 0, 0), some (.istore 4, 2, [4], 0, 0), none, some (.aload_n 0, 1, [0], 0, 0), some (.getfield 44, 3, [10, 10, 2, 1, 6, 3], 0, 0), none, none, some (.iload_n 2, 1, [2], 0, 0), some (.iaload, 1, [], 0, 0), some (.aload_n 0, 1, [0], 0, 0), some (.getfield 41, 3, [10, 9, 2, 1, 6, 2], 0, 0), none, none, some (.iload_n 2, 1, [2], 0, 0), some (.iaload, 1, [], 0, 0), some (.isub, 1, [], 0, 0), some (.iconst 1, 1, [], 1, 0), some (.iadd, 1, [], 0, 0), some (.istore 5, 2, [5], 0, 0), none, some (.aload_n 1, 1, [1], 0, 0), some (.iload_n 2, 1, [2], 0, 0), some (.aload_n 0, 1, [0], 0, 0), some (.getfield 41, 3, [10, 9, 2, 1, 6, 2], 0, 0), none],
  [none, some (.iload_n 2, 1, [2], 0, 0), some (.iaload, 1, [], 0, 0), some (.invokevirtual 97, 3, [1, 3, 3, 3], 0, 0), none, none, some (.aload_n 0, 1, [0], 0, 0), some (.aload_n 1, 1, [1], 0, 0), some (.invokevirtual 146, 3, [0, 102, 2, 3], 0, 0), none, none, some (.aload_n 0, 1, [0], 0, 0), some (.iload_n 3, 1, [3], 0, 0), some (.aload_n 0, 1, [0], 0, 0), some (.getfield 41, 3, [10, 9, 2, 1, 6, 2], 0, 0), none, none, some (.iload_n 2, 1, [2], 0, 0), some (.iaload, 1, [], 0, 0), some (.iload 4, 2, [4], 0, 0), none, some (.imul, 1, [], 0, 0), some (.iadd, 1, [], 0, 0), some (.iload_n 3, 1, [3], 0, 0), some (.aload_n 0, 1, [0], 0, 0), some (.getfield 44, 3, [10, 10, 2, 1, 6, 3], 0, 0), none, none, some (.iload_n 2, 1, [2], 0, 0), some (.iaload, 1, [], 0, 0), some (.iload 4, 2, [4], 0, 0), none],
  [some (.imul, 1, [], 0, 0), some (.iadd, 1, [], 0, 0), some (.invokevirtual 150, 3, [0, 103, 3, 3], 0, 0), none, none, some (.aload_n 0, 1, [0], 0, 0), some (.dup, 1, [], 0, 0), some (.getfield 25, 3, [10, 4, 0], 0, 0), none, none, some (.iload 5, 2, [5], 0, 0), none, some (.iadd, 1, [], 0, 0), some (.putfield 25, 3, [10, 4, 0], 0, 0), none, none, some (.iload 4, 2, [4], 0, 0), none, some (.ifCond .eq 43, 3, [125], 0, 0), none, none, some (.aload_n 0, 1, [0], 0, 0), some (.dup, 1, [], 0, 0), some (.getfield 28, 3, [10, 5, 0], 0, 0), none, none, some (.iconst 0, 1, [], 0, 0), some (.aload_n 0, 1, [0], 0, 0), some (.getfield 44, 3, [10, 10, 2, 1, 6, 3], 0, 0), none, none, some (.iload_n 2, 1, [2], 0, 0)],
  [some (.iaload, 1, [], 0, 0), some (.aload_n 0, 1, [0], 0, 0), some (.getfield 41, 3, [10, 9, 2, 1, 6, 2], 0, 0), none, none, some (.iload_n 2, 1, [2], 0, 0), some (.iaload, 1, [], 0, 0), some (.aload_n 0, 1, [0], 0, 0), some (.getfield 18, 3, [10, 2, 0], 0, 0), none, none, some (.iload_n 3, 1, [3], 0, 0), some (.isub, 1, [], 0, 0), some (.invokestatic 140, 3, [2, 260, 2, 0], 0, 0), none, none, some (.isub, 1, [], 0, 0), some (.iconst 1, 1, [], 1, 0), some (.iadd, 1, [], 0, 0), some (.invokestatic 140, 3, [2, 260, 2, 0], 0, 0), none, none, some (.iadd, 1, [], 0, 0), some (.putfield 28, 3, [10, 5, 0], 0, 0), none, none, some (.goto 22, 3, [144], 0, 0), none, none, some (.iload_n 3, 1, [3], 0, 0), some (.aload_n 0, 1, [0], 0, 0), some (.getfield 18, 3, [10, 2, 0], 0, 0)],
  [none, none, some (.if_icmp .lt 14, 3, [144], 0, 0), none, none, some (.aload_n 0, 1, [0], 0, 0), some (.dup, 1, [], 0, 0), some (.getfield 28, 3, [10, 5, 0], 0, 0), none, none, some (.iload 5, 2, [5], 0, 0), none, some (.iadd, 1, [], 0, 0), some (.putfield 28, 3, [10, 5, 0], 0, 0), none, none, some (.return_, 1, [], 0, 0)]]
def f_Walk_takeLast (N : Nat) (a2 : Int32) (a3 : Int32) (h : MH) : Option (MH) :=
  let v1 : Int32 := (((gI h 42 1)) >>> (a2 &&& 31)) &&& 1
  if inB a2 6 = true then
  (if inB a2 6 = true then
  (let v2 : Int32 := ((gI h 45 (iN a2)) - (gI h 44 (iN a2))) + 1
  if inB a2 6 = true then
  ((f_Asked_put N a2 (gI h 44 (iN a2)) h).bind (fun x3 =>
  (f_Walk_noteFirst N x3).bind (fun x4 =>
  if inB a2 6 = true then
  (if inB a2 6 = true then
  ((f_Walk_noteEnds N (a3 + ((gI x4 44 (iN a2)) * v1)) (a3 + ((gI x4 45 (iN a2)) * v1)) x4).bind (fun x5 =>
  let h6 : MH := sI x5 42 4 ((gI x5 42 4) + v2)
  if v1 = 0 then
  (if a3 < (gI h6 42 2) then
  (some h6)
  else
  (let h7 : MH := sI h6 42 5 ((gI h6 42 5) + v2)
  some h7))
  else
  (if inB a2 6 = true then
  (if inB a2 6 = true then
  ((f_Math_max N (gI h6 44 (iN a2)) ((gI h6 42 2) - a3) h6).bind (fun x8 =>
  (f_Math_max N 0 (((gI h6 45 (iN a2)) - x8.1) + 1) x8.2).bind (fun x9 =>
  let h10 : MH := sI x9.2 42 5 ((gI h6 42 5) + x9.1)
  some h10)))
  else none)
  else none)))
  else none)
  else none)))
  else none)
  else none)
  else none
def C_Walk_takeLast (N : Nat) : MC := (KDL, false, (fun _ => 0), jsB, (fun j => match Nat.beq j 260 with
    | true => w_Math_max (f_Math_max N)
    | false => fun _ _ => none), (fun _ _ _ => none), (fun _ _ _ => none), (fun j => match Nat.beq j 3 with
    | true => w_Asked_put (f_Asked_put N)
    | false => match Nat.beq j 102 with
    | true => w_Walk_noteFirst (f_Walk_noteFirst N)
    | false => match Nat.beq j 103 with
    | true => w_Walk_noteEnds (f_Walk_noteEnds N)
    | false => fun _ _ => none))
def D_Walk_takeLast (N : Nat) (n pc : Nat) (lv : ML) (st : List MV) (h : MH) : Option (MH) :=
  match Nat.beq pc 0 with
  | true => (match lk lv 0, lk lv 1, lk lv 2, lk lv 3, st with
    | some (.inr (.inr (0, 10, 42))), some (.inr (.inr (0, 0, 33))), some (.inl a2), some (.inl a3), [] => f_Walk_takeLast N a2 a3 h
    | _, _, _, _, _ => none)
  | false => none
set_option maxRecDepth 1000000 in
theorem E_Walk_takeLast_0 (N : Nat) (n : Nat) (a2 : Int32) (a3 : Int32) (h : MH) : seg (C_Walk_takeLast N) 6 0 rV T_Walk_takeLast [0] (fun q lv st h => match Nat.ble 1 q with
    | true => D_Walk_takeLast N n q lv st h
    | false => none) 400 true 0 [(0, .inr (.inr (0, 10, 42))), (1, .inr (.inr (0, 0, 33))), (2, .inl a2), (3, .inl a3)] [] h = f_Walk_takeLast N a2 a3 h := (rfl)
def T_Walk_waysToReach : List (List (Option RW)) := [
  [some (.iload_n 1, 1, [1], 0, 0), some (.bipush 7, 2, [], 7, 0), none, some (.invokestatic 165, 3, [3, 151, 2, 0], 0, 0), none, none, some (.ifCond .eq 9, 3, [15], 0, 0), none, none, some (.iload_n 2, 1, [2], 0, 0), some (.bipush 54, 2, [], 54, 0), none, some (.if_icmp .le 5, 3, [17], 0, 0), none, none, some (.iconst 0, 1, [], 0, 0), some (.ireturn, 1, [], 0, 0), some (.aload_n 0, 1, [0], 0, 0), some (.getfield 47, 3, [10, 11, 2, 1, 385, 4], 0, 0), none, none, some (.iload_n 1, 1, [1], 0, 0), some (.bipush 55, 2, [], 55, 0), none, some (.imul, 1, [], 0, 0), some (.iload_n 2, 1, [2], 0, 0), some (.iconst 0, 1, [], 0, 0), some (.invokestatic 140, 3, [2, 260, 2, 0], 0, 0), none, none, some (.iadd, 1, [], 0, 0), some (.iaload, 1, [], 0, 0)],
  [some (.ireturn, 1, [], 0, 0)]]
def f_Walk_waysToReach (N : Nat) (a1 : Int32) (a2 : Int32) (h : MH) : Option (Int32 × MH) :=
  (f_S_isOneOf N a1 7 h).bind (fun x1 =>
  if x1.1 = 0 then
  (some (0, x1.2))
  else
  (if a2 ≤ 54 then
  ((f_Math_max N a2 0 x1.2).bind (fun x2 =>
  if inB ((a1 * 55) + x2.1) 385 = true then
  (some (gI x2.2 46 (iN ((a1 * 55) + x2.1)), x2.2))
  else none))
  else
  (some (0, x1.2))))
def C_Walk_waysToReach (N : Nat) : MC := (KDL, false, (fun _ => 0), jsB, (fun j => match Nat.beq j 151 with
    | true => w_S_isOneOf (f_S_isOneOf N)
    | false => match Nat.beq j 260 with
    | true => w_Math_max (f_Math_max N)
    | false => fun _ _ => none), (fun _ _ _ => none), (fun _ _ _ => none), (fun _ _ _ => none))
def D_Walk_waysToReach (N : Nat) (n pc : Nat) (lv : ML) (st : List MV) (h : MH) : Option (Int32 × MH) :=
  match Nat.beq pc 0 with
  | true => (match lk lv 0, lk lv 1, lk lv 2, st with
    | some (.inr (.inr (0, 10, 42))), some (.inl a1), some (.inl a2), [] => f_Walk_waysToReach N a1 a2 h
    | _, _, _, _ => none)
  | false => none
set_option maxRecDepth 1000000 in
theorem E_Walk_waysToReach_0 (N : Nat) (n : Nat) (a1 : Int32) (a2 : Int32) (h : MH) : seg (C_Walk_waysToReach N) 3 0 rI T_Walk_waysToReach [0] (fun q lv st h => match Nat.ble 1 q with
    | true => D_Walk_waysToReach N n q lv st h
    | false => none) 400 true 0 [(0, .inr (.inr (0, 10, 42))), (1, .inl a1), (2, .inl a2)] [] h = f_Walk_waysToReach N a1 a2 h := (rfl)
def T_Integer_bitCount : List (List (Option RW)) := [
  [some (.iload_n 0, 1, [0], 0, 0), some (.iload_n 0, 1, [0], 0, 0), some (.iconst 1, 1, [], 1, 0), some (.iushr, 1, [], 0, 0), some (.ldc_w 265, 3, [], 1431655765, 0), none, none, some (.iand, 1, [], 0, 0), some (.isub, 1, [], 0, 0), some (.istore_n 0, 1, [0], 0, 0), some (.iload_n 0, 1, [0], 0, 0), some (.ldc_w 266, 3, [], 858993459, 0), none, none, some (.iand, 1, [], 0, 0), some (.iload_n 0, 1, [0], 0, 0), some (.iconst 2, 1, [], 2, 0), some (.iushr, 1, [], 0, 0), some (.ldc_w 266, 3, [], 858993459, 0), none, none, some (.iand, 1, [], 0, 0), some (.iadd, 1, [], 0, 0), some (.istore_n 0, 1, [0], 0, 0), some (.iload_n 0, 1, [0], 0, 0), some (.iload_n 0, 1, [0], 0, 0), some (.iconst 4, 1, [], 4, 0), some (.iushr, 1, [], 0, 0), some (.iadd, 1, [], 0, 0), some (.ldc_w 267, 3, [], 252645135, 0), none, none],
  [some (.iand, 1, [], 0, 0), some (.istore_n 0, 1, [0], 0, 0), some (.iload_n 0, 1, [0], 0, 0), some (.iload_n 0, 1, [0], 0, 0), some (.bipush 8, 2, [], 8, 0), none, some (.iushr, 1, [], 0, 0), some (.iadd, 1, [], 0, 0), some (.istore_n 0, 1, [0], 0, 0), some (.iload_n 0, 1, [0], 0, 0), some (.iload_n 0, 1, [0], 0, 0), some (.bipush 16, 2, [], 16, 0), none, some (.iushr, 1, [], 0, 0), some (.iadd, 1, [], 0, 0), some (.istore_n 0, 1, [0], 0, 0), some (.iload_n 0, 1, [0], 0, 0), some (.bipush 63, 2, [], 63, 0), none, some (.iand, 1, [], 0, 0), some (.ireturn, 1, [], 0, 0)]]
def f_Integer_bitCount (N : Nat) (a0 : Int32) (h : MH) : Option (Int32 × MH) :=
  let v1 : Int32 := a0 - (((a0.toUInt32 >>> ((1 : Int32).toUInt32 &&& Int32.toUInt32 31)).toInt32) &&& 1431655765)
  let v2 : Int32 := (v1 &&& 858993459) + (((v1.toUInt32 >>> ((2 : Int32).toUInt32 &&& Int32.toUInt32 31)).toInt32) &&& 858993459)
  let v3 : Int32 := (v2 + ((v2.toUInt32 >>> ((4 : Int32).toUInt32 &&& Int32.toUInt32 31)).toInt32)) &&& 252645135
  let v4 : Int32 := v3 + ((v3.toUInt32 >>> ((8 : Int32).toUInt32 &&& Int32.toUInt32 31)).toInt32)
  let v5 : Int32 := v4 + ((v4.toUInt32 >>> ((16 : Int32).toUInt32 &&& Int32.toUInt32 31)).toInt32)
  some (v5 &&& 63, h)
def C_Integer_bitCount (N : Nat) : MC := (KDL, false, (fun _ => 0), jsB, (fun _ _ _ => none), (fun _ _ _ => none), (fun _ _ _ => none), (fun _ _ _ => none))
def D_Integer_bitCount (N : Nat) (n pc : Nat) (lv : ML) (st : List MV) (h : MH) : Option (Int32 × MH) :=
  match Nat.beq pc 0 with
  | true => (match lk lv 0, st with
    | some (.inl a0), [] => f_Integer_bitCount N a0 h
    | _, _ => none)
  | false => none
set_option maxRecDepth 1000000 in
theorem E_Integer_bitCount_0 (N : Nat) (n : Nat) (a0 : Int32) (h : MH) : seg (C_Integer_bitCount N) 1 0 rI T_Integer_bitCount [0] (fun q lv st h => match Nat.ble 1 q with
    | true => D_Integer_bitCount N n q lv st h
    | false => none) 400 true 0 [(0, .inl a0)] [] h = f_Integer_bitCount N a0 h := (rfl)
def T_Walk_takeAnyFrom : List (List (Option RW)) := [
  [some (.aload_n 0, 1, [0], 0, 0), some (.getfield 15, 3, [10, 1, 0], 0, 0), none, none, some (.iload_n 2, 1, [2], 0, 0), some (.ishr, 1, [], 0, 0), some (.invokestatic 153, 3, [2, 255, 1, 0], 0, 0), none, none, some (.istore 4, 2, [4], 0, 0), none, some (.aload_n 1, 1, [1], 0, 0), some (.getfield 76, 3, [0, 0, 0], 0, 0), none, none, some (.iload_n 2, 1, [2], 0, 0), some (.isub, 1, [], 0, 0), some (.iload 4, 2, [4], 0, 0), none, some (.isub, 1, [], 0, 0), some (.istore 5, 2, [5], 0, 0), none, some (.iload_n 2, 1, [2], 0, 0), some (.istore 6, 2, [6], 0, 0), none, some (.iload 6, 2, [6], 0, 0), none, some (.aload_n 1, 1, [1], 0, 0), some (.getfield 76, 3, [0, 0, 0], 0, 0), none, none, some (.if_icmp .ge 17, 3, [48], 0, 0)],
  [none, none, some (.aload_n 1, 1, [1], 0, 0), some (.getfield 159, 3, [0, 9, 2, 1, 6, 7], 0, 0), none, none, some (.iload 6, 2, [6], 0, 0), none, some (.iconst 0, 1, [], 0, 0), some (.iastore, 1, [], 0, 0), some (.iinc 6 1, 3, [6], 1, 0), none, none, some (.goto (-20), 3, [25], 0, 0), none, none, some (.aload_n 0, 1, [0], 0, 0), some (.aload_n 1, 1, [1], 0, 0), some (.invokevirtual 146, 3, [0, 102, 2, 3], 0, 0), none, none, some (.aload_n 0, 1, [0], 0, 0), some (.iload_n 3, 1, [3], 0, 0), some (.iload_n 3, 1, [3], 0, 0), some (.bipush 9, 2, [], 9, 0), none, some (.iload 4, 2, [4], 0, 0), none, some (.imul, 1, [], 0, 0), some (.iadd, 1, [], 0, 0), some (.invokevirtual 150, 3, [0, 103, 3, 3], 0, 0), none],
  [none, some (.aload_n 0, 1, [0], 0, 0), some (.dup, 1, [], 0, 0), some (.getfield 25, 3, [10, 4, 0], 0, 0), none, none, some (.aload_n 0, 1, [0], 0, 0), some (.aload_n 1, 1, [1], 0, 0), some (.getfield 76, 3, [0, 0, 0], 0, 0), none, none, some (.iload_n 2, 1, [2], 0, 0), some (.isub, 1, [], 0, 0), some (.iconst 0, 1, [], 0, 0), some (.invokevirtual 162, 3, [0, 101, 3, 0], 0, 0), none, none, some (.iadd, 1, [], 0, 0), some (.putfield 25, 3, [10, 4, 0], 0, 0), none, none, some (.aload_n 0, 1, [0], 0, 0), some (.dup, 1, [], 0, 0), some (.getfield 28, 3, [10, 5, 0], 0, 0), none, none, some (.aload_n 0, 1, [0], 0, 0), some (.iload 4, 2, [4], 0, 0), none, some (.aload_n 0, 1, [0], 0, 0), some (.getfield 18, 3, [10, 2, 0], 0, 0), none],
  [none, some (.iload_n 3, 1, [3], 0, 0), some (.isub, 1, [], 0, 0), some (.invokevirtual 162, 3, [0, 101, 3, 0], 0, 0), none, none, some (.aload_n 0, 1, [0], 0, 0), some (.iload 5, 2, [5], 0, 0), none, some (.iconst 0, 1, [], 0, 0), some (.invokevirtual 162, 3, [0, 101, 3, 0], 0, 0), none, none, some (.imul, 1, [], 0, 0), some (.iadd, 1, [], 0, 0), some (.putfield 28, 3, [10, 5, 0], 0, 0), none, none, some (.return_, 1, [], 0, 0)]]
def F_Walk_takeAnyFrom_25 (N : Nat) (bk : (Int32 → Int32 → Int32 → Int32 → Int32 → MH → Option (MH))) (a2 : Int32) (a3 : Int32) (a4 : Int32) (a5 : Int32) (a6 : Int32) (h : MH) : Option (MH) :=
  if (gI h 33 0) ≤ a6 then
  ((f_Walk_noteFirst N h).bind (fun x3 =>
  (f_Walk_noteEnds N a3 (a3 + (9 * a4)) x3).bind (fun x4 =>
  (f_Walk_waysToReach N ((gI x4 33 0) - a2) 0 x4).bind (fun x5 =>
  let h6 : MH := sI x5.2 42 4 ((gI x4 42 4) + x5.1)
  (f_Walk_waysToReach N a4 ((gI h6 42 2) - a3) h6).bind (fun x7 =>
  (f_Walk_waysToReach N a5 0 x7.2).bind (fun x8 =>
  let h9 : MH := sI x8.2 42 5 ((gI h6 42 5) + (x7.1 * x8.1))
  some h9))))))
  else
  (if inB a6 6 = true then
  (let h10 : MH := sI h 40 (iN a6) 0
  let v11 : Int32 := a6 + 1
  bk a2 a3 a4 a5 v11 h10)
  else none)
def F_Walk_takeAnyFrom_0 (N : Nat) (bk : (Int32 → Int32 → Int32 → Int32 → Int32 → MH → Option (MH))) (a2 : Int32) (a3 : Int32) (h : MH) : Option (MH) :=
  (f_Integer_bitCount N (((gI h 42 1)) >>> (a2 &&& 31)) h).bind (fun x1 =>
  let v2 : Int32 := ((gI x1.2 33 0) - a2) - x1.1
  F_Walk_takeAnyFrom_25 N bk a2 a3 x1.1 v2 a2 x1.2)
def L_Walk_takeAnyFrom (N : Nat) : Nat → (Int32 → Int32 → Int32 → Int32 → Int32 → MH → Option (MH))
  | 0 => fun _ _ _ _ _ _ => none
  | n + 1 => F_Walk_takeAnyFrom_25 N (L_Walk_takeAnyFrom N n)
def f_Walk_takeAnyFrom (N : Nat) (a2 : Int32) (a3 : Int32) (h : MH) : Option (MH) := F_Walk_takeAnyFrom_0 N (L_Walk_takeAnyFrom N N) a2 a3 h
def C_Walk_takeAnyFrom (N : Nat) : MC := (KDL, false, (fun _ => 0), jsB, (fun j => match Nat.beq j 101 with
    | true => w_Walk_waysToReach (f_Walk_waysToReach N)
    | false => match Nat.beq j 255 with
    | true => w_Integer_bitCount (f_Integer_bitCount N)
    | false => fun _ _ => none), (fun _ _ _ => none), (fun _ _ _ => none), (fun j => match Nat.beq j 102 with
    | true => w_Walk_noteFirst (f_Walk_noteFirst N)
    | false => match Nat.beq j 103 with
    | true => w_Walk_noteEnds (f_Walk_noteEnds N)
    | false => fun _ _ => none))
def D_Walk_takeAnyFrom (N : Nat) (n pc : Nat) (lv : ML) (st : List MV) (h : MH) : Option (MH) :=
  match Nat.beq pc 0 with
  | true => (match lk lv 0, lk lv 1, lk lv 2, lk lv 3, st with
    | some (.inr (.inr (0, 10, 42))), some (.inr (.inr (0, 0, 33))), some (.inl a2), some (.inl a3), [] => F_Walk_takeAnyFrom_0 N (L_Walk_takeAnyFrom N n) a2 a3 h
    | _, _, _, _, _ => none)
  | false => match Nat.beq pc 25 with
  | true => (match lk lv 0, lk lv 1, lk lv 2, lk lv 3, lk lv 4, lk lv 5, lk lv 6, st with
    | some (.inr (.inr (0, 10, 42))), some (.inr (.inr (0, 0, 33))), some (.inl a2), some (.inl a3), some (.inl a4), some (.inl a5), some (.inl a6), [] => F_Walk_takeAnyFrom_25 N (L_Walk_takeAnyFrom N n) a2 a3 a4 a5 a6 h
    | _, _, _, _, _, _, _, _ => none)
  | false => none
def B_Walk_takeAnyFrom (N : Nat) (n pc : Nat) (lv : ML) (st : List MV) (h : MH) : Option (MH) :=
  match Nat.beq pc 25 with
  | true => (match lk lv 0, lk lv 1, lk lv 2, lk lv 3, lk lv 4, lk lv 5, lk lv 6, st with
    | some (.inr (.inr (0, 10, 42))), some (.inr (.inr (0, 0, 33))), some (.inl a2), some (.inl a3), some (.inl a4), some (.inl a5), some (.inl a6), [] => ((L_Walk_takeAnyFrom N n)) a2 a3 a4 a5 a6 h
    | _, _, _, _, _, _, _, _ => none)
  | false => none
set_option maxRecDepth 1000000 in
theorem E_Walk_takeAnyFrom_0 (N : Nat) (n : Nat) (a2 : Int32) (a3 : Int32) (h : MH) : seg (C_Walk_takeAnyFrom N) 7 0 rV T_Walk_takeAnyFrom [0, 25] (fun q lv st h => match Nat.ble 1 q with
    | true => D_Walk_takeAnyFrom N n q lv st h
    | false => B_Walk_takeAnyFrom N n q lv st h) 400 true 0 [(0, .inr (.inr (0, 10, 42))), (1, .inr (.inr (0, 0, 33))), (2, .inl a2), (3, .inl a3)] [] h = F_Walk_takeAnyFrom_0 N (L_Walk_takeAnyFrom N n) a2 a3 h := (rfl)
set_option maxRecDepth 1000000 in
theorem E_Walk_takeAnyFrom_25 (N : Nat) (n : Nat) (a2 : Int32) (a3 : Int32) (a4 : Int32) (a5 : Int32) (a6 : Int32) (h : MH) : seg (C_Walk_takeAnyFrom N) 7 0 rV T_Walk_takeAnyFrom [0, 25] (fun q lv st h => match Nat.ble 26 q with
    | true => D_Walk_takeAnyFrom N n q lv st h
    | false => B_Walk_takeAnyFrom N n q lv st h) 400 true 25 [(0, .inr (.inr (0, 10, 42))), (1, .inr (.inr (0, 0, 33))), (2, .inl a2), (3, .inl a3), (4, .inl a4), (5, .inl a5), (6, .inl a6)] [] h = F_Walk_takeAnyFrom_25 N (L_Walk_takeAnyFrom N n) a2 a3 a4 a5 a6 h := (rfl)
def T_Walk_visit : List (List (Option RW)) := [
  [some (.iload_n 2, 1, [2], 0, 0), some (.aload_n 1, 1, [1], 0, 0), some (.getfield 76, 3, [0, 0, 0], 0, 0), none, none, some (.if_icmp .ge 9, 3, [14], 0, 0), none, none, some (.iload_n 2, 1, [2], 0, 0), some (.bipush 6, 2, [], 6, 0), none, some (.if_icmp .lt 4, 3, [15], 0, 0), none, none, some (.return_, 1, [], 0, 0), some (.aload_n 1, 1, [1], 0, 0), some (.iload_n 2, 1, [2], 0, 0), some (.iload_n 3, 1, [3], 0, 0), some (.invokevirtual 79, 3, [1, 6, 3, 0], 0, 0), none, none, some (.istore 5, 2, [5], 0, 0), none, some (.iload 5, 2, [5], 0, 0), none, some (.ifCond .ne 21, 3, [46], 0, 0), none, none, some (.aload_n 0, 1, [0], 0, 0), some (.aload_n 1, 1, [1], 0, 0), some (.iload_n 2, 1, [2], 0, 0), some (.invokevirtual 83, 3, [0, 96, 3, 0], 0, 0)],
  [none, none, some (.ifCond .eq 12, 3, [46], 0, 0), none, none, some (.aload_n 0, 1, [0], 0, 0), some (.aload_n 1, 1, [1], 0, 0), some (.iload_n 2, 1, [2], 0, 0), some (.iload 4, 2, [4], 0, 0), none, some (.invokevirtual 87, 3, [0, 100, 4, 3], 0, 0), none, none, some (.return_, 1, [], 0, 0), some (.aload_n 0, 1, [0], 0, 0), some (.aload_n 1, 1, [1], 0, 0), some (.iload_n 2, 1, [2], 0, 0), some (.iload 5, 2, [5], 0, 0), none, some (.invokevirtual 91, 3, [0, 97, 4, 3], 0, 0), none, none, some (.aload_n 0, 1, [0], 0, 0), some (.getfield 41, 3, [10, 9, 2, 1, 6, 2], 0, 0), none, none, some (.iload_n 2, 1, [2], 0, 0), some (.iaload, 1, [], 0, 0), some (.aload_n 0, 1, [0], 0, 0), some (.getfield 44, 3, [10, 10, 2, 1, 6, 3], 0, 0), none, none],
  [some (.iload_n 2, 1, [2], 0, 0), some (.iaload, 1, [], 0, 0), some (.if_icmp .le 4, 3, [70], 0, 0), none, none, some (.return_, 1, [], 0, 0), some (.iload_n 2, 1, [2], 0, 0), some (.aload_n 1, 1, [1], 0, 0), some (.getfield 76, 3, [0, 0, 0], 0, 0), none, none, some (.iconst 1, 1, [], 1, 0), some (.isub, 1, [], 0, 0), some (.if_icmp .ne 12, 3, [89], 0, 0), none, none, some (.aload_n 0, 1, [0], 0, 0), some (.aload_n 1, 1, [1], 0, 0), some (.iload_n 2, 1, [2], 0, 0), some (.iload 4, 2, [4], 0, 0), none, some (.invokevirtual 94, 3, [0, 99, 4, 3], 0, 0), none, none, some (.return_, 1, [], 0, 0), some (.aload_n 0, 1, [0], 0, 0), some (.getfield 44, 3, [10, 10, 2, 1, 6, 3], 0, 0), none, none, some (.iload_n 2, 1, [2], 0, 0), some (.iaload, 1, [], 0, 0), some (.istore 6, 2, [6], 0, 0)],
  [none, some (.aload_n 0, 1, [0], 0, 0), some (.getfield 41, 3, [10, 9, 2, 1, 6, 2], 0, 0), none, none, some (.iload_n 2, 1, [2], 0, 0), some (.iaload, 1, [], 0, 0), some (.istore 7, 2, [7], 0, 0), none, some (.iload 7, 2, [7], 0, 0), none, some (.iload 6, 2, [6], 0, 0), none, some (.if_icmp .gt 54, 3, [163], 0, 0), none, none, some (.aload_n 0, 1, [0], 0, 0), some (.getfield 21, 3, [10, 3, 0], 0, 0), none, none, some (.ifCond .eq 10, 3, [126], 0, 0), none, none, some (.aload_n 0, 1, [0], 0, 0), some (.getfield 25, 3, [10, 4, 0], 0, 0), none, none, some (.ifCond .gt 40, 3, [163], 0, 0), none, none, some (.aload_n 1, 1, [1], 0, 0), some (.iload_n 2, 1, [2], 0, 0)],
  [some (.iload 7, 2, [7], 0, 0), none, some (.invokevirtual 97, 3, [1, 3, 3, 3], 0, 0), none, none, some (.aload_n 0, 1, [0], 0, 0), some (.aload_n 1, 1, [1], 0, 0), some (.iload_n 2, 1, [2], 0, 0), some (.iconst 1, 1, [], 1, 0), some (.iadd, 1, [], 0, 0), some (.iload 5, 2, [5], 0, 0), none, some (.iload 4, 2, [4], 0, 0), none, some (.iload 7, 2, [7], 0, 0), none, some (.aload_n 0, 1, [0], 0, 0), some (.getfield 15, 3, [10, 1, 0], 0, 0), none, none, some (.iload_n 2, 1, [2], 0, 0), some (.ishr, 1, [], 0, 0), some (.iconst 1, 1, [], 1, 0), some (.iand, 1, [], 0, 0), some (.imul, 1, [], 0, 0), some (.iadd, 1, [], 0, 0), some (.invokevirtual 72, 3, [0, 95, 5, 3], 0, 0), none, none, some (.iinc 7 1, 3, [7], 1, 0), none, none],
  [some (.goto (-55), 3, [105], 0, 0), none, none, some (.return_, 1, [], 0, 0)]]
def F_Walk_visit_126 (N : Nat) (rc : (Int32 → Int32 → Int32 → MH → Option (MH))) (bk : (Int32 → Int32 → Int32 → Int32 → Int32 → MH → Option (MH))) (a2 : Int32) (a4 : Int32) (a5 : Int32) (a6 : Int32) (a7 : Int32) (h : MH) : Option (MH) :=
  (f_Asked_put N a2 a7 h).bind (fun x8 =>
  (rc (a2 + 1) a5 (a4 + (a7 * ((((gI x8 42 1)) >>> (a2 &&& 31)) &&& 1))) x8).bind (fun x9 =>
  let v10 : Int32 := a7 + 1
  bk a2 a4 a5 a6 v10 x9))
def F_Walk_visit_105 (N : Nat) (rc : (Int32 → Int32 → Int32 → MH → Option (MH))) (bk : (Int32 → Int32 → Int32 → Int32 → Int32 → MH → Option (MH))) (a2 : Int32) (a4 : Int32) (a5 : Int32) (a6 : Int32) (a7 : Int32) (h : MH) : Option (MH) :=
  if a6 < a7 then
  (some h)
  else
  (if (gI h 42 3) = 0 then
  (F_Walk_visit_126 N rc bk a2 a4 a5 a6 a7 h)
  else
  (if 0 < (gI h 42 4) then
  (some h)
  else
  (F_Walk_visit_126 N rc bk a2 a4 a5 a6 a7 h)))
def F_Walk_visit_46 (N : Nat) (rc : (Int32 → Int32 → Int32 → MH → Option (MH))) (bk : (Int32 → Int32 → Int32 → Int32 → Int32 → MH → Option (MH))) (a2 : Int32) (a4 : Int32) (a5 : Int32) (h : MH) : Option (MH) :=
  (f_Walk_narrow N a2 a5 h).bind (fun x4 =>
  if inB a2 6 = true then
  (if inB a2 6 = true then
  (if (gI x4 44 (iN a2)) ≤ (gI x4 45 (iN a2)) then
  (if a2 = ((gI x4 33 0) - 1) then
  ((f_Walk_takeLast N a2 a4 x4).bind (fun x5 =>
  some x5))
  else
  (if inB a2 6 = true then
  (let v6 : Int32 := gI x4 45 (iN a2)
  if inB a2 6 = true then
  (let v7 : Int32 := gI x4 44 (iN a2)
  F_Walk_visit_105 N rc bk a2 a4 a5 v6 v7 x4)
  else none)
  else none))
  else
  (some x4))
  else none)
  else none)
def F_Walk_visit_0 (N : Nat) (rc : (Int32 → Int32 → Int32 → MH → Option (MH))) (bk : (Int32 → Int32 → Int32 → Int32 → Int32 → MH → Option (MH))) (a2 : Int32) (a3 : Int32) (a4 : Int32) (h : MH) : Option (MH) :=
  if (gI h 33 0) ≤ a2 then
  (some h)
  else
  (if a2 < 6 then
  ((f_Asked_stillOpen N a2 a3 h).bind (fun x1 =>
  if x1.1 = 0 then
  ((f_Walk_isLoose N a2 x1.2).bind (fun x2 =>
  if x2.1 = 0 then
  (F_Walk_visit_46 N rc bk a2 a4 x1.1 x2.2)
  else
  ((f_Walk_takeAnyFrom N a2 a4 x2.2).bind (fun x3 =>
  some x3))))
  else
  (F_Walk_visit_46 N rc bk a2 a4 x1.1 x1.2)))
  else
  (some h))
def L_Walk_visit (N : Nat) (rc : (Int32 → Int32 → Int32 → MH → Option (MH))) : Nat → (Int32 → Int32 → Int32 → Int32 → Int32 → MH → Option (MH))
  | 0 => fun _ _ _ _ _ _ => none
  | n + 1 => F_Walk_visit_105 N rc (L_Walk_visit N rc n)
def g_Walk_visit (N : Nat) (rc : (Int32 → Int32 → Int32 → MH → Option (MH))) (a2 : Int32) (a3 : Int32) (a4 : Int32) (h : MH) : Option (MH) := F_Walk_visit_0 N rc (L_Walk_visit N rc N) a2 a3 a4 h
def f_Walk_visit (N : Nat) : Nat → Int32 → Int32 → Int32 → MH → Option (MH)
  | 0 => fun _ _ _ _ => none
  | d + 1 => g_Walk_visit N (f_Walk_visit N d)
def C_Walk_visit (N : Nat) (rc : (Int32 → Int32 → Int32 → MH → Option (MH))) : MC := (KDL, false, (fun _ => 0), jsB, (fun j => match Nat.beq j 6 with
    | true => w_Asked_stillOpen (f_Asked_stillOpen N)
    | false => match Nat.beq j 96 with
    | true => w_Walk_isLoose (f_Walk_isLoose N)
    | false => fun _ _ => none), (fun _ _ _ => none), (fun _ _ _ => none), (fun j => match Nat.beq j 3 with
    | true => w_Asked_put (f_Asked_put N)
    | false => match Nat.beq j 95 with
    | true => w_Walk_visit (rc)
    | false => match Nat.beq j 97 with
    | true => w_Walk_narrow (f_Walk_narrow N)
    | false => match Nat.beq j 99 with
    | true => w_Walk_takeLast (f_Walk_takeLast N)
    | false => match Nat.beq j 100 with
    | true => w_Walk_takeAnyFrom (f_Walk_takeAnyFrom N)
    | false => fun _ _ => none))
def D_Walk_visit (N : Nat) (rc : (Int32 → Int32 → Int32 → MH → Option (MH))) (n pc : Nat) (lv : ML) (st : List MV) (h : MH) : Option (MH) :=
  match Nat.beq pc 0 with
  | true => (match lk lv 0, lk lv 1, lk lv 2, lk lv 3, lk lv 4, st with
    | some (.inr (.inr (0, 10, 42))), some (.inr (.inr (0, 0, 33))), some (.inl a2), some (.inl a3), some (.inl a4), [] => F_Walk_visit_0 N rc (L_Walk_visit N rc n) a2 a3 a4 h
    | _, _, _, _, _, _ => none)
  | false => match Nat.beq pc 46 with
  | true => (match lk lv 0, lk lv 1, lk lv 2, lk lv 4, lk lv 5, st with
    | some (.inr (.inr (0, 10, 42))), some (.inr (.inr (0, 0, 33))), some (.inl a2), some (.inl a4), some (.inl a5), [] => F_Walk_visit_46 N rc (L_Walk_visit N rc n) a2 a4 a5 h
    | _, _, _, _, _, _ => none)
  | false => match Nat.beq pc 105 with
  | true => (match lk lv 0, lk lv 1, lk lv 2, lk lv 4, lk lv 5, lk lv 6, lk lv 7, st with
    | some (.inr (.inr (0, 10, 42))), some (.inr (.inr (0, 0, 33))), some (.inl a2), some (.inl a4), some (.inl a5), some (.inl a6), some (.inl a7), [] => F_Walk_visit_105 N rc (L_Walk_visit N rc n) a2 a4 a5 a6 a7 h
    | _, _, _, _, _, _, _, _ => none)
  | false => match Nat.beq pc 126 with
  | true => (match lk lv 0, lk lv 1, lk lv 2, lk lv 4, lk lv 5, lk lv 6, lk lv 7, st with
    | some (.inr (.inr (0, 10, 42))), some (.inr (.inr (0, 0, 33))), some (.inl a2), some (.inl a4), some (.inl a5), some (.inl a6), some (.inl a7), [] => F_Walk_visit_126 N rc (L_Walk_visit N rc n) a2 a4 a5 a6 a7 h
    | _, _, _, _, _, _, _, _ => none)
  | false => none
def B_Walk_visit (N : Nat) (rc : (Int32 → Int32 → Int32 → MH → Option (MH))) (n pc : Nat) (lv : ML) (st : List MV) (h : MH) : Option (MH) :=
  match Nat.beq pc 105 with
  | true => (match lk lv 0, lk lv 1, lk lv 2, lk lv 4, lk lv 5, lk lv 6, lk lv 7, st with
    | some (.inr (.inr (0, 10, 42))), some (.inr (.inr (0, 0, 33))), some (.inl a2), some (.inl a4), some (.inl a5), some (.inl a6), some (.inl a7), [] => ((L_Walk_visit N rc n)) a2 a4 a5 a6 a7 h
    | _, _, _, _, _, _, _, _ => none)
  | false => none
set_option maxRecDepth 1000000 in
theorem E_Walk_visit_0 (N : Nat) (rc : (Int32 → Int32 → Int32 → MH → Option (MH))) (n : Nat) (a2 : Int32) (a3 : Int32) (a4 : Int32) (h : MH) : seg (C_Walk_visit N rc) 8 0 rV T_Walk_visit [0, 46, 105, 126] (fun q lv st h => match Nat.ble 1 q with
    | true => D_Walk_visit N rc n q lv st h
    | false => B_Walk_visit N rc n q lv st h) 400 true 0 [(0, .inr (.inr (0, 10, 42))), (1, .inr (.inr (0, 0, 33))), (2, .inl a2), (3, .inl a3), (4, .inl a4)] [] h = F_Walk_visit_0 N rc (L_Walk_visit N rc n) a2 a3 a4 h := (rfl)
set_option maxRecDepth 1000000 in
theorem E_Walk_visit_46 (N : Nat) (rc : (Int32 → Int32 → Int32 → MH → Option (MH))) (n : Nat) (a2 : Int32) (a4 : Int32) (a5 : Int32) (h : MH) : seg (C_Walk_visit N rc) 8 0 rV T_Walk_visit [0, 46, 105, 126] (fun q lv st h => match Nat.ble 47 q with
    | true => D_Walk_visit N rc n q lv st h
    | false => B_Walk_visit N rc n q lv st h) 400 true 46 [(0, .inr (.inr (0, 10, 42))), (1, .inr (.inr (0, 0, 33))), (2, .inl a2), (4, .inl a4), (5, .inl a5)] [] h = F_Walk_visit_46 N rc (L_Walk_visit N rc n) a2 a4 a5 h := (rfl)
set_option maxRecDepth 1000000 in
theorem E_Walk_visit_105 (N : Nat) (rc : (Int32 → Int32 → Int32 → MH → Option (MH))) (n : Nat) (a2 : Int32) (a4 : Int32) (a5 : Int32) (a6 : Int32) (a7 : Int32) (h : MH) : seg (C_Walk_visit N rc) 8 0 rV T_Walk_visit [0, 46, 105, 126] (fun q lv st h => match Nat.ble 106 q with
    | true => D_Walk_visit N rc n q lv st h
    | false => B_Walk_visit N rc n q lv st h) 400 true 105 [(0, .inr (.inr (0, 10, 42))), (1, .inr (.inr (0, 0, 33))), (2, .inl a2), (4, .inl a4), (5, .inl a5), (6, .inl a6), (7, .inl a7)] [] h = F_Walk_visit_105 N rc (L_Walk_visit N rc n) a2 a4 a5 a6 a7 h := (rfl)
set_option maxRecDepth 1000000 in
theorem E_Walk_visit_126 (N : Nat) (rc : (Int32 → Int32 → Int32 → MH → Option (MH))) (n : Nat) (a2 : Int32) (a4 : Int32) (a5 : Int32) (a6 : Int32) (a7 : Int32) (h : MH) : seg (C_Walk_visit N rc) 8 0 rV T_Walk_visit [0, 46, 105, 126] (fun q lv st h => match Nat.ble 127 q with
    | true => D_Walk_visit N rc n q lv st h
    | false => B_Walk_visit N rc n q lv st h) 400 true 126 [(0, .inr (.inr (0, 10, 42))), (1, .inr (.inr (0, 0, 33))), (2, .inl a2), (4, .inl a4), (5, .inl a5), (6, .inl a6), (7, .inl a7)] [] h = F_Walk_visit_126 N rc (L_Walk_visit N rc n) a2 a4 a5 a6 a7 h := (rfl)
def T_Walk_all : List (List (Option RW)) := [
  [some (.aload_n 0, 1, [0], 0, 0), some (.iload_n 2, 1, [2], 0, 0), some (.iload_n 3, 1, [3], 0, 0), some (.iload 4, 2, [4], 0, 0), none, some (.invokevirtual 63, 3, [0, 94, 4, 3], 0, 0), none, none, some (.aload_n 0, 1, [0], 0, 0), some (.iconst 0, 1, [], 0, 0), some (.putfield 21, 3, [10, 3, 0, 1], 0, 0), none, none, some (.aload_n 0, 1, [0], 0, 0), some (.aload_n 1, 1, [1], 0, 0), some (.iconst 0, 1, [], 0, 0), some (.aload_n 1, 1, [1], 0, 0), some (.getfield 67, 3, [0, 2, 0], 0, 0), none, none, some (.iconst 0, 1, [], 0, 0), some (.invokevirtual 72, 3, [0, 95, 5, 3], 0, 0), none, none, some (.return_, 1, [], 0, 0)]]
def f_Walk_all (N : Nat) (a2 : Int32) (a3 : Int32) (a4 : Int32) (h : MH) : Option (MH) :=
  (f_Walk_begin N a2 a3 a4 h).bind (fun x1 =>
  let h2 : MH := sI x1 42 3 0
  (f_Walk_visit N 8 0 (gI h2 33 2) 0 h2).bind (fun x3 =>
  some x3))
def C_Walk_all (N : Nat) : MC := (KDL, false, (fun _ => 0), jsB, (fun _ _ _ => none), (fun _ _ _ => none), (fun _ _ _ => none), (fun j => match Nat.beq j 94 with
    | true => w_Walk_begin (f_Walk_begin N)
    | false => match Nat.beq j 95 with
    | true => w_Walk_visit (f_Walk_visit N 8)
    | false => fun _ _ => none))
def D_Walk_all (N : Nat) (n pc : Nat) (lv : ML) (st : List MV) (h : MH) : Option (MH) :=
  match Nat.beq pc 0 with
  | true => (match lk lv 0, lk lv 1, lk lv 2, lk lv 3, lk lv 4, st with
    | some (.inr (.inr (0, 10, 42))), some (.inr (.inr (0, 0, 33))), some (.inl a2), some (.inl a3), some (.inl a4), [] => f_Walk_all N a2 a3 a4 h
    | _, _, _, _, _, _ => none)
  | false => none
set_option maxRecDepth 1000000 in
theorem E_Walk_all_0 (N : Nat) (n : Nat) (a2 : Int32) (a3 : Int32) (a4 : Int32) (h : MH) : seg (C_Walk_all N) 5 0 rV T_Walk_all [0] (fun q lv st h => match Nat.ble 1 q with
    | true => D_Walk_all N n q lv st h
    | false => none) 400 true 0 [(0, .inr (.inr (0, 10, 42))), (1, .inr (.inr (0, 0, 33))), (2, .inl a2), (3, .inl a3), (4, .inl a4)] [] h = f_Walk_all N a2 a3 a4 h := (rfl)
def T_Walk_finds : List (List (Option RW)) := [
  [some (.aload_n 0, 1, [0], 0, 0), some (.iload_n 3, 1, [3], 0, 0), some (.iconst 0, 1, [], 0, 0), some (.iconst 0, 1, [], 0, 0), some (.invokevirtual 63, 3, [0, 94, 4, 3], 0, 0), none, none, some (.aload_n 0, 1, [0], 0, 0), some (.iconst 1, 1, [], 1, 0), some (.putfield 21, 3, [10, 3, 0, 1], 0, 0), none, none, some (.aload_n 0, 1, [0], 0, 0), some (.aload_n 1, 1, [1], 0, 0), some (.iconst 0, 1, [], 0, 0), some (.iload_n 2, 1, [2], 0, 0), some (.iconst 0, 1, [], 0, 0), some (.invokevirtual 72, 3, [0, 95, 5, 3], 0, 0), none, none, some (.aload_n 0, 1, [0], 0, 0), some (.getfield 25, 3, [10, 4, 0], 0, 0), none, none, some (.ifCond .le 7, 3, [31], 0, 0), none, none, some (.iconst 1, 1, [], 1, 0), some (.goto 4, 3, [32], 0, 0), none, none, some (.iconst 0, 1, [], 0, 0)],
  [some (.ireturn, 1, [], 0, 0)]]
def f_Walk_finds (N : Nat) (a2 : Int32) (a3 : Int32) (h : MH) : Option (Int32 × MH) :=
  (f_Walk_begin N a3 0 0 h).bind (fun x1 =>
  let h2 : MH := sI x1 42 3 1
  (f_Walk_visit N 8 0 a2 0 h2).bind (fun x3 =>
  if (gI x3 42 4) ≤ 0 then
  (some (0, x3))
  else
  (some (1, x3))))
def C_Walk_finds (N : Nat) : MC := (KDL, false, (fun _ => 0), jsB, (fun _ _ _ => none), (fun _ _ _ => none), (fun _ _ _ => none), (fun j => match Nat.beq j 94 with
    | true => w_Walk_begin (f_Walk_begin N)
    | false => match Nat.beq j 95 with
    | true => w_Walk_visit (f_Walk_visit N 8)
    | false => fun _ _ => none))
def D_Walk_finds (N : Nat) (n pc : Nat) (lv : ML) (st : List MV) (h : MH) : Option (Int32 × MH) :=
  match Nat.beq pc 0 with
  | true => (match lk lv 0, lk lv 1, lk lv 2, lk lv 3, st with
    | some (.inr (.inr (0, 10, 42))), some (.inr (.inr (0, 0, 33))), some (.inl a2), some (.inl a3), [] => f_Walk_finds N a2 a3 h
    | _, _, _, _, _ => none)
  | false => none
set_option maxRecDepth 1000000 in
theorem E_Walk_finds_0 (N : Nat) (n : Nat) (a2 : Int32) (a3 : Int32) (h : MH) : seg (C_Walk_finds N) 4 1 rI T_Walk_finds [0] (fun q lv st h => match Nat.ble 1 q with
    | true => D_Walk_finds N n q lv st h
    | false => none) 400 true 0 [(0, .inr (.inr (0, 10, 42))), (1, .inr (.inr (0, 0, 33))), (2, .inl a2), (3, .inl a3)] [] h = f_Walk_finds N a2 a3 h := (rfl)
def T_Walk_noteUnmet : List (List (Option RW)) := [
  [some (.iload_n 1, 1, [1], 0, 0), some (.invokestatic 153, 3, [2, 255, 1, 0], 0, 0), none, none, some (.istore_n 2, 1, [2], 0, 0), some (.iload_n 2, 1, [2], 0, 0), some (.aload_n 0, 1, [0], 0, 0), some (.getfield 54, 3, [10, 13, 0], 0, 0), none, none, some (.if_icmp .ge 18, 3, [28], 0, 0), none, none, some (.aload_n 0, 1, [0], 0, 0), some (.iload_n 2, 1, [2], 0, 0), some (.putfield 54, 3, [10, 13, 0], 0, 0), none, none, some (.aload_n 0, 1, [0], 0, 0), some (.iload_n 1, 1, [1], 0, 0), some (.putfield 57, 3, [10, 14, 0], 0, 0), none, none, some (.aload_n 0, 1, [0], 0, 0), some (.iconst 0, 1, [], 0, 0), some (.putfield 60, 3, [10, 15, 0], 0, 0), none, none, some (.iload_n 2, 1, [2], 0, 0), some (.aload_n 0, 1, [0], 0, 0), some (.getfield 54, 3, [10, 13, 0], 0, 0), none],
  [none, some (.if_icmp .ne 13, 3, [46], 0, 0), none, none, some (.aload_n 0, 1, [0], 0, 0), some (.dup, 1, [], 0, 0), some (.getfield 60, 3, [10, 15, 0], 0, 0), none, none, some (.iconst 1, 1, [], 1, 0), some (.iadd, 1, [], 0, 0), some (.putfield 60, 3, [10, 15, 0], 0, 0), none, none, some (.return_, 1, [], 0, 0)]]
def F_Walk_noteUnmet_28 (N : Nat) (a2 : Int32) (h : MH) : Option (MH) :=
  if a2 = (gI h 42 13) then
  (let h5 : MH := sI h 42 15 ((gI h 42 15) + 1)
  some h5)
  else
  (some h)
def f_Walk_noteUnmet (N : Nat) (a1 : Int32) (h : MH) : Option (MH) :=
  (f_Integer_bitCount N a1 h).bind (fun x1 =>
  if (gI x1.2 42 13) ≤ x1.1 then
  (F_Walk_noteUnmet_28 N x1.1 x1.2)
  else
  (let h2 : MH := sI x1.2 42 13 x1.1
  let h3 : MH := sI h2 42 14 a1
  let h4 : MH := sI h3 42 15 0
  F_Walk_noteUnmet_28 N x1.1 h4))
def C_Walk_noteUnmet (N : Nat) : MC := (KDL, false, (fun _ => 0), jsB, (fun j => match Nat.beq j 255 with
    | true => w_Integer_bitCount (f_Integer_bitCount N)
    | false => fun _ _ => none), (fun _ _ _ => none), (fun _ _ _ => none), (fun _ _ _ => none))
def D_Walk_noteUnmet (N : Nat) (n pc : Nat) (lv : ML) (st : List MV) (h : MH) : Option (MH) :=
  match Nat.beq pc 0 with
  | true => (match lk lv 0, lk lv 1, st with
    | some (.inr (.inr (0, 10, 42))), some (.inl a1), [] => f_Walk_noteUnmet N a1 h
    | _, _, _ => none)
  | false => match Nat.beq pc 28 with
  | true => (match lk lv 0, lk lv 2, st with
    | some (.inr (.inr (0, 10, 42))), some (.inl a2), [] => F_Walk_noteUnmet_28 N a2 h
    | _, _, _ => none)
  | false => none
set_option maxRecDepth 1000000 in
theorem E_Walk_noteUnmet_0 (N : Nat) (n : Nat) (a1 : Int32) (h : MH) : seg (C_Walk_noteUnmet N) 3 0 rV T_Walk_noteUnmet [0, 28] (fun q lv st h => match Nat.ble 1 q with
    | true => D_Walk_noteUnmet N n q lv st h
    | false => none) 400 true 0 [(0, .inr (.inr (0, 10, 42))), (1, .inl a1)] [] h = f_Walk_noteUnmet N a1 h := (rfl)
set_option maxRecDepth 1000000 in
theorem E_Walk_noteUnmet_28 (N : Nat) (n : Nat) (a2 : Int32) (h : MH) : seg (C_Walk_noteUnmet N) 3 0 rV T_Walk_noteUnmet [0, 28] (fun q lv st h => match Nat.ble 29 q with
    | true => D_Walk_noteUnmet N n q lv st h
    | false => none) 400 true 28 [(0, .inr (.inr (0, 10, 42))), (2, .inl a2)] [] h = F_Walk_noteUnmet_28 N a2 h := (rfl)
def T_Walk_noteMet : List (List (Option RW)) := [
  [some (.iconst 0, 1, [], 0, 0), some (.istore_n 2, 1, [2], 0, 0), some (.iload_n 2, 1, [2], 0, 0), some (.sipush 256, 3, [], 256, 0), none, none, some (.if_icmp .ge 24, 3, [30], 0, 0), none, none, some (.iload_n 2, 1, [2], 0, 0), some (.iload_n 1, 1, [1], 0, 0), some (.iconst (-1), 1, [], (-1), 0), some (.ixor, 1, [], 0, 0), some (.iand, 1, [], 0, 0), some (.ifCond .ne 10, 3, [24], 0, 0), none, none, some (.aload_n 0, 1, [0], 0, 0), some (.getfield 50, 3, [10, 12, 2, 4, 256, 5], 0, 0), none, none, some (.iload_n 2, 1, [2], 0, 0), some (.iconst 1, 1, [], 1, 0), some (.bastore, 1, [], 0, 0), some (.iinc 2 1, 3, [2], 1, 0), none, none, some (.goto (-25), 3, [2], 0, 0), none, none, some (.return_, 1, [], 0, 0)]]
def F_Walk_noteMet_2 (N : Nat) (bk : (Int32 → Int32 → MH → Option (MH))) (a1 : Int32) (a2 : Int32) (h : MH) : Option (MH) :=
  if 256 ≤ a2 then
  (some h)
  else
  (if (a2 &&& (a1 ^^^ ((-1)))) = 0 then
  (if inB a2 256 = true then
  (let h1 : MH := sI h 47 (iN a2) ((1 : Int32) &&& 1)
  let v2 : Int32 := a2 + 1
  bk a1 v2 h1)
  else none)
  else
  (let v3 : Int32 := a2 + 1
  bk a1 v3 h))
def F_Walk_noteMet_0 (N : Nat) (bk : (Int32 → Int32 → MH → Option (MH))) (a1 : Int32) (h : MH) : Option (MH) :=
  F_Walk_noteMet_2 N bk a1 0 h
def L_Walk_noteMet (N : Nat) : Nat → (Int32 → Int32 → MH → Option (MH))
  | 0 => fun _ _ _ => none
  | n + 1 => F_Walk_noteMet_2 N (L_Walk_noteMet N n)
def f_Walk_noteMet (N : Nat) (a1 : Int32) (h : MH) : Option (MH) := F_Walk_noteMet_0 N (L_Walk_noteMet N N) a1 h
def C_Walk_noteMet (N : Nat) : MC := (KDL, false, (fun _ => 0), jsB, (fun _ _ _ => none), (fun _ _ _ => none), (fun _ _ _ => none), (fun _ _ _ => none))
def D_Walk_noteMet (N : Nat) (n pc : Nat) (lv : ML) (st : List MV) (h : MH) : Option (MH) :=
  match Nat.beq pc 0 with
  | true => (match lk lv 0, lk lv 1, st with
    | some (.inr (.inr (0, 10, 42))), some (.inl a1), [] => F_Walk_noteMet_0 N (L_Walk_noteMet N n) a1 h
    | _, _, _ => none)
  | false => match Nat.beq pc 2 with
  | true => (match lk lv 0, lk lv 1, lk lv 2, st with
    | some (.inr (.inr (0, 10, 42))), some (.inl a1), some (.inl a2), [] => F_Walk_noteMet_2 N (L_Walk_noteMet N n) a1 a2 h
    | _, _, _, _ => none)
  | false => none
def B_Walk_noteMet (N : Nat) (n pc : Nat) (lv : ML) (st : List MV) (h : MH) : Option (MH) :=
  match Nat.beq pc 2 with
  | true => (match lk lv 0, lk lv 1, lk lv 2, st with
    | some (.inr (.inr (0, 10, 42))), some (.inl a1), some (.inl a2), [] => ((L_Walk_noteMet N n)) a1 a2 h
    | _, _, _, _ => none)
  | false => none
set_option maxRecDepth 1000000 in
theorem E_Walk_noteMet_0 (N : Nat) (n : Nat) (a1 : Int32) (h : MH) : seg (C_Walk_noteMet N) 3 0 rV T_Walk_noteMet [0, 2] (fun q lv st h => match Nat.ble 1 q with
    | true => D_Walk_noteMet N n q lv st h
    | false => B_Walk_noteMet N n q lv st h) 400 true 0 [(0, .inr (.inr (0, 10, 42))), (1, .inl a1)] [] h = F_Walk_noteMet_0 N (L_Walk_noteMet N n) a1 h := (rfl)
set_option maxRecDepth 1000000 in
theorem E_Walk_noteMet_2 (N : Nat) (n : Nat) (a1 : Int32) (a2 : Int32) (h : MH) : seg (C_Walk_noteMet N) 3 0 rV T_Walk_noteMet [0, 2] (fun q lv st h => match Nat.ble 3 q with
    | true => D_Walk_noteMet N n q lv st h
    | false => B_Walk_noteMet N n q lv st h) 400 true 2 [(0, .inr (.inr (0, 10, 42))), (1, .inl a1), (2, .inl a2)] [] h = F_Walk_noteMet_2 N (L_Walk_noteMet N n) a1 a2 h := (rfl)
def T_Walk_visitSets : List (List (Option RW)) := [
  [some (.aload_n 1, 1, [1], 0, 0), some (.iload_n 2, 1, [2], 0, 0), some (.iload_n 3, 1, [3], 0, 0), some (.invokevirtual 182, 3, [1, 7, 3, 0], 0, 0), none, none, some (.istore 4, 2, [4], 0, 0), none, some (.aload_n 0, 1, [0], 0, 0), some (.getfield 50, 3, [10, 12, 2, 4, 256, 5], 0, 0), none, none, some (.iload 4, 2, [4], 0, 0), none, some (.baload, 1, [], 0, 0), some (.ifCond .eq 4, 3, [19], 0, 0), none, none, some (.return_, 1, [], 0, 0), some (.iload_n 2, 1, [2], 0, 0), some (.aload_n 1, 1, [1], 0, 0), some (.getfield 76, 3, [0, 0, 0], 0, 0), none, none, some (.if_icmp .ge 9, 3, [33], 0, 0), none, none, some (.iload_n 2, 1, [2], 0, 0), some (.bipush 6, 2, [], 6, 0), none, some (.if_icmp .lt 10, 3, [40], 0, 0), none],
  [none, some (.aload_n 0, 1, [0], 0, 0), some (.iload 4, 2, [4], 0, 0), none, some (.invokevirtual 185, 3, [0, 107, 2, 3], 0, 0), none, none, some (.return_, 1, [], 0, 0), some (.aload_n 1, 1, [1], 0, 0), some (.iload_n 2, 1, [2], 0, 0), some (.aload_n 0, 1, [0], 0, 0), some (.getfield 9, 3, [10, 0, 0], 0, 0), none, none, some (.invokevirtual 107, 3, [1, 5, 3, 0], 0, 0), none, none, some (.istore 5, 2, [5], 0, 0), none, some (.aload_n 1, 1, [1], 0, 0), some (.iload_n 2, 1, [2], 0, 0), some (.aload_n 0, 1, [0], 0, 0), some (.getfield 9, 3, [10, 0, 0], 0, 0), none, none, some (.invokevirtual 104, 3, [1, 4, 3, 0], 0, 0), none, none, some (.istore 6, 2, [6], 0, 0), none, some (.iload 6, 2, [6], 0, 0), none],
  [some (.iload 5, 2, [5], 0, 0), none, some (.if_icmp .gt 26, 3, [92], 0, 0), none, none, some (.aload_n 1, 1, [1], 0, 0), some (.iload_n 2, 1, [2], 0, 0), some (.iload 6, 2, [6], 0, 0), none, some (.invokevirtual 97, 3, [1, 3, 3, 3], 0, 0), none, none, some (.aload_n 0, 1, [0], 0, 0), some (.aload_n 1, 1, [1], 0, 0), some (.iload_n 2, 1, [2], 0, 0), some (.iconst 1, 1, [], 1, 0), some (.iadd, 1, [], 0, 0), some (.iload 4, 2, [4], 0, 0), none, some (.invokevirtual 175, 3, [0, 106, 4, 3], 0, 0), none, none, some (.iinc 6 1, 3, [6], 1, 0), none, none, some (.goto (-27), 3, [62], 0, 0), none, none, some (.return_, 1, [], 0, 0)]]
def F_Walk_visitSets_62 (N : Nat) (rc : (Int32 → Int32 → MH → Option (MH))) (bk : (Int32 → Int32 → Int32 → Int32 → MH → Option (MH))) (a2 : Int32) (a4 : Int32) (a5 : Int32) (a6 : Int32) (h : MH) : Option (MH) :=
  if a5 < a6 then
  (some h)
  else
  ((f_Asked_put N a2 a6 h).bind (fun x6 =>
  (rc (a2 + 1) a4 x6).bind (fun x7 =>
  let v8 : Int32 := a6 + 1
  bk a2 a4 a5 v8 x7)))
def F_Walk_visitSets_0 (N : Nat) (rc : (Int32 → Int32 → MH → Option (MH))) (bk : (Int32 → Int32 → Int32 → Int32 → MH → Option (MH))) (a2 : Int32) (a3 : Int32) (h : MH) : Option (MH) :=
  (f_Asked_stillWithin N a2 a3 h).bind (fun x1 =>
  if inB x1.1 256 = true then
  (if (gI x1.2 47 (iN x1.1)) = 0 then
  (if (gI x1.2 33 0) ≤ a2 then
  ((f_Walk_noteMet N x1.1 x1.2).bind (fun x2 =>
  some x2))
  else
  (if a2 < 6 then
  ((f_Asked_mostBeside N a2 (gI x1.2 42 0) x1.2).bind (fun x3 =>
  (f_Asked_leastBeside N a2 (gI x3.2 42 0) x3.2).bind (fun x4 =>
  F_Walk_visitSets_62 N rc bk a2 x1.1 x3.1 x4.1 x4.2)))
  else
  ((f_Walk_noteMet N x1.1 x1.2).bind (fun x5 =>
  some x5))))
  else
  (some x1.2))
  else none)
def L_Walk_visitSets (N : Nat) (rc : (Int32 → Int32 → MH → Option (MH))) : Nat → (Int32 → Int32 → Int32 → Int32 → MH → Option (MH))
  | 0 => fun _ _ _ _ _ => none
  | n + 1 => F_Walk_visitSets_62 N rc (L_Walk_visitSets N rc n)
def g_Walk_visitSets (N : Nat) (rc : (Int32 → Int32 → MH → Option (MH))) (a2 : Int32) (a3 : Int32) (h : MH) : Option (MH) := F_Walk_visitSets_0 N rc (L_Walk_visitSets N rc N) a2 a3 h
def f_Walk_visitSets (N : Nat) : Nat → Int32 → Int32 → MH → Option (MH)
  | 0 => fun _ _ _ => none
  | d + 1 => g_Walk_visitSets N (f_Walk_visitSets N d)
def C_Walk_visitSets (N : Nat) (rc : (Int32 → Int32 → MH → Option (MH))) : MC := (KDL, false, (fun _ => 0), jsB, (fun j => match Nat.beq j 4 with
    | true => w_Asked_leastBeside (f_Asked_leastBeside N)
    | false => match Nat.beq j 5 with
    | true => w_Asked_mostBeside (f_Asked_mostBeside N)
    | false => match Nat.beq j 7 with
    | true => w_Asked_stillWithin (f_Asked_stillWithin N)
    | false => fun _ _ => none), (fun _ _ _ => none), (fun _ _ _ => none), (fun j => match Nat.beq j 3 with
    | true => w_Asked_put (f_Asked_put N)
    | false => match Nat.beq j 106 with
    | true => w_Walk_visitSets (rc)
    | false => match Nat.beq j 107 with
    | true => w_Walk_noteMet (f_Walk_noteMet N)
    | false => fun _ _ => none))
def D_Walk_visitSets (N : Nat) (rc : (Int32 → Int32 → MH → Option (MH))) (n pc : Nat) (lv : ML) (st : List MV) (h : MH) : Option (MH) :=
  match Nat.beq pc 0 with
  | true => (match lk lv 0, lk lv 1, lk lv 2, lk lv 3, st with
    | some (.inr (.inr (0, 10, 42))), some (.inr (.inr (0, 0, 33))), some (.inl a2), some (.inl a3), [] => F_Walk_visitSets_0 N rc (L_Walk_visitSets N rc n) a2 a3 h
    | _, _, _, _, _ => none)
  | false => match Nat.beq pc 62 with
  | true => (match lk lv 0, lk lv 1, lk lv 2, lk lv 4, lk lv 5, lk lv 6, st with
    | some (.inr (.inr (0, 10, 42))), some (.inr (.inr (0, 0, 33))), some (.inl a2), some (.inl a4), some (.inl a5), some (.inl a6), [] => F_Walk_visitSets_62 N rc (L_Walk_visitSets N rc n) a2 a4 a5 a6 h
    | _, _, _, _, _, _, _ => none)
  | false => none
def B_Walk_visitSets (N : Nat) (rc : (Int32 → Int32 → MH → Option (MH))) (n pc : Nat) (lv : ML) (st : List MV) (h : MH) : Option (MH) :=
  match Nat.beq pc 62 with
  | true => (match lk lv 0, lk lv 1, lk lv 2, lk lv 4, lk lv 5, lk lv 6, st with
    | some (.inr (.inr (0, 10, 42))), some (.inr (.inr (0, 0, 33))), some (.inl a2), some (.inl a4), some (.inl a5), some (.inl a6), [] => ((L_Walk_visitSets N rc n)) a2 a4 a5 a6 h
    | _, _, _, _, _, _, _ => none)
  | false => none
set_option maxRecDepth 1000000 in
theorem E_Walk_visitSets_0 (N : Nat) (rc : (Int32 → Int32 → MH → Option (MH))) (n : Nat) (a2 : Int32) (a3 : Int32) (h : MH) : seg (C_Walk_visitSets N rc) 7 0 rV T_Walk_visitSets [0, 62] (fun q lv st h => match Nat.ble 1 q with
    | true => D_Walk_visitSets N rc n q lv st h
    | false => B_Walk_visitSets N rc n q lv st h) 400 true 0 [(0, .inr (.inr (0, 10, 42))), (1, .inr (.inr (0, 0, 33))), (2, .inl a2), (3, .inl a3)] [] h = F_Walk_visitSets_0 N rc (L_Walk_visitSets N rc n) a2 a3 h := (rfl)
set_option maxRecDepth 1000000 in
theorem E_Walk_visitSets_62 (N : Nat) (rc : (Int32 → Int32 → MH → Option (MH))) (n : Nat) (a2 : Int32) (a4 : Int32) (a5 : Int32) (a6 : Int32) (h : MH) : seg (C_Walk_visitSets N rc) 7 0 rV T_Walk_visitSets [0, 62] (fun q lv st h => match Nat.ble 63 q with
    | true => D_Walk_visitSets N rc n q lv st h
    | false => B_Walk_visitSets N rc n q lv st h) 400 true 62 [(0, .inr (.inr (0, 10, 42))), (1, .inr (.inr (0, 0, 33))), (2, .inl a2), (4, .inl a4), (5, .inl a5), (6, .inl a6)] [] h = F_Walk_visitSets_62 N rc (L_Walk_visitSets N rc n) a2 a4 a5 a6 h := (rfl)
def T_Walk_findQuarrel : List (List (Option RW)) := [
  [some (.aload_n 0, 1, [0], 0, 0), some (.iload_n 2, 1, [2], 0, 0), some (.putfield 9, 3, [10, 0, 0], 0, 0), none, none, some (.iconst 0, 1, [], 0, 0), some (.istore_n 3, 1, [3], 0, 0), some (.iload_n 3, 1, [3], 0, 0), some (.sipush 256, 3, [], 256, 0), none, none, some (.if_icmp .ge 16, 3, [27], 0, 0), none, none, some (.aload_n 0, 1, [0], 0, 0), some (.getfield 50, 3, [10, 12, 2, 4, 256, 5], 0, 0), none, none, some (.iload_n 3, 1, [3], 0, 0), some (.iconst 0, 1, [], 0, 0), some (.bastore, 1, [], 0, 0), some (.iinc 3 1, 3, [3], 1, 0), none, none, some (.goto (-17), 3, [7], 0, 0), none, none, some (.aload_n 0, 1, [0], 0, 0), some (.aload_n 1, 1, [1], 0, 0), some (.iconst 0, 1, [], 0, 0), some (.aload_n 1, 1, [1], 0, 0), some (.getfield 67, 3, [0, 2, 0], 0, 0)],
  [none, none, some (.invokevirtual 175, 3, [0, 106, 4, 3], 0, 0), none, none, some (.aload_n 0, 1, [0], 0, 0), some (.bipush 9, 2, [], 9, 0), none, some (.putfield 54, 3, [10, 13, 0], 0, 0), none, none, some (.aload_n 0, 1, [0], 0, 0), some (.iconst 0, 1, [], 0, 0), some (.putfield 60, 3, [10, 15, 0], 0, 0), none, none, some (.iconst 0, 1, [], 0, 0), some (.istore_n 3, 1, [3], 0, 0), some (.iload_n 3, 1, [3], 0, 0), some (.sipush 256, 3, [], 256, 0), none, none, some (.if_icmp .ge 34, 3, [88], 0, 0), none, none, some (.iload_n 3, 1, [3], 0, 0), some (.aload_n 1, 1, [1], 0, 0), some (.getfield 67, 3, [0, 2, 0], 0, 0), none, none, some (.iconst (-1), 1, [], (-1), 0), some (.ixor, 1, [], 0, 0)],
  [some (.iand, 1, [], 0, 0), some (.ifCond .ne 17, 3, [82], 0, 0), none, none, some (.aload_n 0, 1, [0], 0, 0), some (.getfield 50, 3, [10, 12, 2, 4, 256, 5], 0, 0), none, none, some (.iload_n 3, 1, [3], 0, 0), some (.baload, 1, [], 0, 0), some (.ifCond .ne 8, 3, [82], 0, 0), none, none, some (.aload_n 0, 1, [0], 0, 0), some (.iload_n 3, 1, [3], 0, 0), some (.invokevirtual 178, 3, [0, 105, 2, 3], 0, 0), none, none, some (.iinc 3 1, 3, [3], 1, 0), none, none, some (.goto (-35), 3, [50], 0, 0), none, none, some (.return_, 1, [], 0, 0)]]
def F_Walk_findQuarrel_50 (N : Nat) (bk : (Int32 → MH → Option (MH)) × (Int32 → MH → Option (MH))) (a3 : Int32) (h : MH) : Option (MH) :=
  if 256 ≤ a3 then
  (some h)
  else
  (if (a3 &&& ((gI h 33 2) ^^^ ((-1)))) = 0 then
  (if inB a3 256 = true then
  (if (gI h 47 (iN a3)) = 0 then
  ((f_Walk_noteUnmet N a3 h).bind (fun x7 =>
  let v8 : Int32 := a3 + 1
  (bk.2) v8 x7))
  else
  (let v9 : Int32 := a3 + 1
  (bk.2) v9 h))
  else none)
  else
  (let v10 : Int32 := a3 + 1
  (bk.2) v10 h))
def F_Walk_findQuarrel_7 (N : Nat) (bk : (Int32 → MH → Option (MH)) × (Int32 → MH → Option (MH))) (a3 : Int32) (h : MH) : Option (MH) :=
  if 256 ≤ a3 then
  ((f_Walk_visitSets N 8 0 (gI h 33 2) h).bind (fun x2 =>
  let h3 : MH := sI x2 42 13 9
  let h4 : MH := sI h3 42 15 0
  F_Walk_findQuarrel_50 N bk 0 h4))
  else
  (if inB a3 256 = true then
  (let h5 : MH := sI h 47 (iN a3) ((0 : Int32) &&& 1)
  let v6 : Int32 := a3 + 1
  (bk.1) v6 h5)
  else none)
def F_Walk_findQuarrel_0 (N : Nat) (bk : (Int32 → MH → Option (MH)) × (Int32 → MH → Option (MH))) (a2 : Int32) (h : MH) : Option (MH) :=
  let h1 : MH := sI h 42 0 a2
  F_Walk_findQuarrel_7 N bk 0 h1
def L_Walk_findQuarrel (N : Nat) : Nat → ((Int32 → MH → Option (MH)) × (Int32 → MH → Option (MH)))
  | 0 => (fun _ _ => none, fun _ _ => none)
  | n + 1 => (F_Walk_findQuarrel_7 N (L_Walk_findQuarrel N n), F_Walk_findQuarrel_50 N (L_Walk_findQuarrel N n))
def f_Walk_findQuarrel (N : Nat) (a2 : Int32) (h : MH) : Option (MH) := F_Walk_findQuarrel_0 N (L_Walk_findQuarrel N N) a2 h
def C_Walk_findQuarrel (N : Nat) : MC := (KDL, false, (fun _ => 0), jsB, (fun _ _ _ => none), (fun _ _ _ => none), (fun _ _ _ => none), (fun j => match Nat.beq j 105 with
    | true => w_Walk_noteUnmet (f_Walk_noteUnmet N)
    | false => match Nat.beq j 106 with
    | true => w_Walk_visitSets (f_Walk_visitSets N 8)
    | false => fun _ _ => none))
def D_Walk_findQuarrel (N : Nat) (n pc : Nat) (lv : ML) (st : List MV) (h : MH) : Option (MH) :=
  match Nat.beq pc 0 with
  | true => (match lk lv 0, lk lv 1, lk lv 2, st with
    | some (.inr (.inr (0, 10, 42))), some (.inr (.inr (0, 0, 33))), some (.inl a2), [] => F_Walk_findQuarrel_0 N (L_Walk_findQuarrel N n) a2 h
    | _, _, _, _ => none)
  | false => match Nat.beq pc 7 with
  | true => (match lk lv 0, lk lv 1, lk lv 3, st with
    | some (.inr (.inr (0, 10, 42))), some (.inr (.inr (0, 0, 33))), some (.inl a3), [] => F_Walk_findQuarrel_7 N (L_Walk_findQuarrel N n) a3 h
    | _, _, _, _ => none)
  | false => match Nat.beq pc 50 with
  | true => (match lk lv 0, lk lv 1, lk lv 3, st with
    | some (.inr (.inr (0, 10, 42))), some (.inr (.inr (0, 0, 33))), some (.inl a3), [] => F_Walk_findQuarrel_50 N (L_Walk_findQuarrel N n) a3 h
    | _, _, _, _ => none)
  | false => none
def B_Walk_findQuarrel (N : Nat) (n pc : Nat) (lv : ML) (st : List MV) (h : MH) : Option (MH) :=
  match Nat.beq pc 7 with
  | true => (match lk lv 0, lk lv 1, lk lv 3, st with
    | some (.inr (.inr (0, 10, 42))), some (.inr (.inr (0, 0, 33))), some (.inl a3), [] => ((L_Walk_findQuarrel N n).1) a3 h
    | _, _, _, _ => none)
  | false => match Nat.beq pc 50 with
  | true => (match lk lv 0, lk lv 1, lk lv 3, st with
    | some (.inr (.inr (0, 10, 42))), some (.inr (.inr (0, 0, 33))), some (.inl a3), [] => ((L_Walk_findQuarrel N n).2) a3 h
    | _, _, _, _ => none)
  | false => none
set_option maxRecDepth 1000000 in
theorem E_Walk_findQuarrel_0 (N : Nat) (n : Nat) (a2 : Int32) (h : MH) : seg (C_Walk_findQuarrel N) 4 0 rV T_Walk_findQuarrel [0, 7, 50] (fun q lv st h => match Nat.ble 1 q with
    | true => D_Walk_findQuarrel N n q lv st h
    | false => B_Walk_findQuarrel N n q lv st h) 400 true 0 [(0, .inr (.inr (0, 10, 42))), (1, .inr (.inr (0, 0, 33))), (2, .inl a2)] [] h = F_Walk_findQuarrel_0 N (L_Walk_findQuarrel N n) a2 h := (rfl)
set_option maxRecDepth 1000000 in
theorem E_Walk_findQuarrel_7 (N : Nat) (n : Nat) (a3 : Int32) (h : MH) : seg (C_Walk_findQuarrel N) 4 0 rV T_Walk_findQuarrel [0, 7, 50] (fun q lv st h => match Nat.ble 8 q with
    | true => D_Walk_findQuarrel N n q lv st h
    | false => B_Walk_findQuarrel N n q lv st h) 400 true 7 [(0, .inr (.inr (0, 10, 42))), (1, .inr (.inr (0, 0, 33))), (3, .inl a3)] [] h = F_Walk_findQuarrel_7 N (L_Walk_findQuarrel N n) a3 h := (rfl)
set_option maxRecDepth 1000000 in
theorem E_Walk_findQuarrel_50 (N : Nat) (n : Nat) (a3 : Int32) (h : MH) : seg (C_Walk_findQuarrel N) 4 0 rV T_Walk_findQuarrel [0, 7, 50] (fun q lv st h => match Nat.ble 51 q with
    | true => D_Walk_findQuarrel N n q lv st h
    | false => B_Walk_findQuarrel N n q lv st h) 400 true 50 [(0, .inr (.inr (0, 10, 42))), (1, .inr (.inr (0, 0, 33))), (3, .inl a3)] [] h = F_Walk_findQuarrel_50 N (L_Walk_findQuarrel N n) a3 h := (rfl)
def T_S_status : List (List (Option RW)) := [
  [some (.aload_n 0, 1, [0], 0, 0), some (.getfield 85, 3, [11, 12, 0], 0, 0), none, none, some (.ireturn, 1, [], 0, 0)]]
def f_S_status (N : Nat) (h : MH) : Option (Int32 × MH) :=
  some (gI h 1 12, h)
def C_S_status (N : Nat) : MC := (KDL, false, (fun _ => 0), jsB, (fun _ _ _ => none), (fun _ _ _ => none), (fun _ _ _ => none), (fun _ _ _ => none))
def D_S_status (N : Nat) (n pc : Nat) (lv : ML) (st : List MV) (h : MH) : Option (Int32 × MH) :=
  match Nat.beq pc 0 with
  | true => (match lk lv 0, st with
    | some (.inr (.inr (0, 11, 1))), [] => f_S_status N h
    | _, _ => none)
  | false => none
set_option maxRecDepth 1000000 in
theorem E_S_status_0 (N : Nat) (n : Nat) (h : MH) : seg (C_S_status N) 1 0 rI T_S_status [0] (fun q lv st h => match Nat.ble 1 q with
    | true => D_S_status N n q lv st h
    | false => none) 400 true 0 [(0, .inr (.inr (0, 11, 1)))] [] h = f_S_status N h := (rfl)
def T_S_top : List (List (Option RW)) := [
  [some (.aload_n 0, 1, [0], 0, 0), some (.getfield 71, 3, [11, 9, 1], 0, 0), none, none, some (.lreturn, 1, [], 0, 0)]]
def f_S_top (N : Nat) (h : MH) : Option (Int64 × MH) :=
  some (gJ h 1 9, h)
def C_S_top (N : Nat) : MC := (KDL, false, (fun _ => 0), jsB, (fun _ _ _ => none), (fun _ _ _ => none), (fun _ _ _ => none), (fun _ _ _ => none))
def D_S_top (N : Nat) (n pc : Nat) (lv : ML) (st : List MV) (h : MH) : Option (Int64 × MH) :=
  match Nat.beq pc 0 with
  | true => (match lk lv 0, st with
    | some (.inr (.inr (0, 11, 1))), [] => f_S_top N h
    | _, _ => none)
  | false => none
set_option maxRecDepth 1000000 in
theorem E_S_top_0 (N : Nat) (n : Nat) (h : MH) : seg (C_S_top N) 1 0 rJ T_S_top [0] (fun q lv st h => match Nat.ble 1 q with
    | true => D_S_top N n q lv st h
    | false => none) 400 true 0 [(0, .inr (.inr (0, 11, 1)))] [] h = f_S_top N h := (rfl)
def T_S_bottom : List (List (Option RW)) := [
  [some (.aload_n 0, 1, [0], 0, 0), some (.getfield 75, 3, [11, 10, 1], 0, 0), none, none, some (.lreturn, 1, [], 0, 0)]]
def f_S_bottom (N : Nat) (h : MH) : Option (Int64 × MH) :=
  some (gJ h 1 10, h)
def C_S_bottom (N : Nat) : MC := (KDL, false, (fun _ => 0), jsB, (fun _ _ _ => none), (fun _ _ _ => none), (fun _ _ _ => none), (fun _ _ _ => none))
def D_S_bottom (N : Nat) (n pc : Nat) (lv : ML) (st : List MV) (h : MH) : Option (Int64 × MH) :=
  match Nat.beq pc 0 with
  | true => (match lk lv 0, st with
    | some (.inr (.inr (0, 11, 1))), [] => f_S_bottom N h
    | _, _ => none)
  | false => none
set_option maxRecDepth 1000000 in
theorem E_S_bottom_0 (N : Nat) (n : Nat) (h : MH) : seg (C_S_bottom N) 1 0 rJ T_S_bottom [0] (fun q lv st h => match Nat.ble 1 q with
    | true => D_S_bottom N n q lv st h
    | false => none) 400 true 0 [(0, .inr (.inr (0, 11, 1)))] [] h = f_S_bottom N h := (rfl)
def T_S_allow : List (List (Option RW)) := [
  [some (.aload_n 0, 1, [0], 0, 0), some (.iconst 0, 1, [], 0, 0), some (.putfield 85, 3, [11, 12, 0], 0, 0), none, none, some (.iconst 1, 1, [], 1, 0), some (.ireturn, 1, [], 0, 0)]]
def f_S_allow (N : Nat) (h : MH) : Option (Int32 × MH) :=
  let h1 : MH := sI h 1 12 0
  some (1, h1)
def C_S_allow (N : Nat) : MC := (KDL, false, (fun _ => 0), jsB, (fun _ _ _ => none), (fun _ _ _ => none), (fun _ _ _ => none), (fun _ _ _ => none))
def D_S_allow (N : Nat) (n pc : Nat) (lv : ML) (st : List MV) (h : MH) : Option (Int32 × MH) :=
  match Nat.beq pc 0 with
  | true => (match lk lv 0, st with
    | some (.inr (.inr (0, 11, 1))), [] => f_S_allow N h
    | _, _ => none)
  | false => none
set_option maxRecDepth 1000000 in
theorem E_S_allow_0 (N : Nat) (n : Nat) (h : MH) : seg (C_S_allow N) 1 1 rI T_S_allow [0] (fun q lv st h => match Nat.ble 1 q with
    | true => D_S_allow N n q lv st h
    | false => none) 400 true 0 [(0, .inr (.inr (0, 11, 1)))] [] h = f_S_allow N h := (rfl)
def T_S_deny : List (List (Option RW)) := [
  [some (.aload_n 0, 1, [0], 0, 0), some (.iload_n 1, 1, [1], 0, 0), some (.putfield 85, 3, [11, 12, 0], 0, 0), none, none, some (.iconst 0, 1, [], 0, 0), some (.ireturn, 1, [], 0, 0)]]
def f_S_deny (N : Nat) (a1 : Int32) (h : MH) : Option (Int32 × MH) :=
  let h1 : MH := sI h 1 12 a1
  some (0, h1)
def C_S_deny (N : Nat) : MC := (KDL, false, (fun _ => 0), jsB, (fun _ _ _ => none), (fun _ _ _ => none), (fun _ _ _ => none), (fun _ _ _ => none))
def D_S_deny (N : Nat) (n pc : Nat) (lv : ML) (st : List MV) (h : MH) : Option (Int32 × MH) :=
  match Nat.beq pc 0 with
  | true => (match lk lv 0, lk lv 1, st with
    | some (.inr (.inr (0, 11, 1))), some (.inl a1), [] => f_S_deny N a1 h
    | _, _, _ => none)
  | false => none
set_option maxRecDepth 1000000 in
theorem E_S_deny_0 (N : Nat) (n : Nat) (a1 : Int32) (h : MH) : seg (C_S_deny N) 2 1 rI T_S_deny [0] (fun q lv st h => match Nat.ble 1 q with
    | true => D_S_deny N n q lv st h
    | false => none) 400 true 0 [(0, .inr (.inr (0, 11, 1))), (1, .inl a1)] [] h = f_S_deny N a1 h := (rfl)
def T_S_isTray : List (List (Option RW)) := [
  [some (.iload_n 0, 1, [0], 0, 0), some (.iconst 4, 1, [], 4, 0), some (.invokestatic 186, 3, [2, 151, 2, 0], 0, 0), none, none, some (.ireturn, 1, [], 0, 0)]]
def f_S_isTray (N : Nat) (a0 : Int32) (h : MH) : Option (Int32 × MH) :=
  (f_S_isOneOf N a0 4 h).bind (fun x1 =>
  match narOK 1 x1.1 with
  | true => some (x1.1, x1.2)
  | false => none)
def C_S_isTray (N : Nat) : MC := (KDL, false, (fun _ => 0), jsB, (fun j => match Nat.beq j 151 with
    | true => w_S_isOneOf (f_S_isOneOf N)
    | false => fun _ _ => none), (fun _ _ _ => none), (fun _ _ _ => none), (fun _ _ _ => none))
def D_S_isTray (N : Nat) (n pc : Nat) (lv : ML) (st : List MV) (h : MH) : Option (Int32 × MH) :=
  match Nat.beq pc 0 with
  | true => (match lk lv 0, st with
    | some (.inl a0), [] => f_S_isTray N a0 h
    | _, _ => none)
  | false => none
set_option maxRecDepth 1000000 in
theorem E_S_isTray_0 (N : Nat) (n : Nat) (a0 : Int32) (h : MH) : seg (C_S_isTray N) 1 1 rI T_S_isTray [0] (fun q lv st h => match Nat.ble 1 q with
    | true => D_S_isTray N n q lv st h
    | false => none) 400 true 0 [(0, .inl a0)] [] h = f_S_isTray N a0 h := (rfl)
def T_S_tray : List (List (Option RW)) := [
  [some (.iload_n 1, 1, [1], 0, 0), some (.invokestatic 105, 3, [2, 152, 1, 0], 0, 0), none, none, some (.ifCond .eq 22, 3, [26], 0, 0), none, none, some (.iload_n 2, 1, [2], 0, 0), some (.ifCond .lt 18, 3, [26], 0, 0), none, none, some (.iload_n 2, 1, [2], 0, 0), some (.iconst 4, 1, [], 4, 0), some (.if_icmp .ge 13, 3, [26], 0, 0), none, none, some (.iload_n 3, 1, [3], 0, 0), some (.ifCond .lt 9, 3, [26], 0, 0), none, none, some (.iload_n 3, 1, [3], 0, 0), some (.bipush 60, 2, [], 60, 0), none, some (.if_icmp .le 9, 3, [32], 0, 0), none, none, some (.aload_n 0, 1, [0], 0, 0), some (.iconst 1, 1, [], 1, 0), some (.invokevirtual 109, 3, [0, 147, 2, 0], 0, 0), none, none, some (.ireturn, 1, [], 0, 0)],
  [some (.aload_n 0, 1, [0], 0, 0), some (.getfield 11, 3, [11, 0, 2, 5, 4, 1], 0, 0), none, none, some (.iload_n 1, 1, [1], 0, 0), some (.aaload, 1, [], 0, 0), some (.iload_n 2, 1, [2], 0, 0), some (.iload_n 3, 1, [3], 0, 0), some (.invokevirtual 112, 3, [1, 85, 3, 3], 0, 0), none, none, some (.aload_n 0, 1, [0], 0, 0), some (.invokevirtual 116, 3, [0, 145, 1, 0], 0, 0), none, none, some (.ireturn, 1, [], 0, 0)]]
def f_S_tray (N : Nat) (a1 : Int32) (a2 : Int32) (a3 : Int32) (h : MH) : Option (Int32 × MH) :=
  (f_S_isTray N a1 h).bind (fun x1 =>
  if x1.1 = 0 then
  ((f_S_deny N 1 x1.2).bind (fun x2 =>
  match narOK 1 x2.1 with
  | true => some (x2.1, x2.2)
  | false => none))
  else
  (if a2 < 0 then
  ((f_S_deny N 1 x1.2).bind (fun x3 =>
  match narOK 1 x3.1 with
  | true => some (x3.1, x3.2)
  | false => none))
  else
  (if 4 ≤ a2 then
  ((f_S_deny N 1 x1.2).bind (fun x4 =>
  match narOK 1 x4.1 with
  | true => some (x4.1, x4.2)
  | false => none))
  else
  (if a3 < 0 then
  ((f_S_deny N 1 x1.2).bind (fun x5 =>
  match narOK 1 x5.1 with
  | true => some (x5.1, x5.2)
  | false => none))
  else
  (if a3 ≤ 60 then
  (if inB a1 4 = true then
  ((f_Tray_lay N (gR x1.2 2 (iN a1)) a2 a3 x1.2).bind (fun x6 =>
  (f_S_allow N x6).bind (fun x7 =>
  match narOK 1 x7.1 with
  | true => some (x7.1, x7.2)
  | false => none)))
  else none)
  else
  ((f_S_deny N 1 x1.2).bind (fun x8 =>
  match narOK 1 x8.1 with
  | true => some (x8.1, x8.2)
  | false => none)))))))
def C_S_tray (N : Nat) : MC := (KDL, false, (fun _ => 0), jsB, (fun j => match Nat.beq j 145 with
    | true => w_S_allow (f_S_allow N)
    | false => match Nat.beq j 147 with
    | true => w_S_deny (f_S_deny N)
    | false => match Nat.beq j 152 with
    | true => w_S_isTray (f_S_isTray N)
    | false => fun _ _ => none), (fun _ _ _ => none), (fun _ _ _ => none), (fun j => match Nat.beq j 85 with
    | true => w_Tray_lay (f_Tray_lay N)
    | false => fun _ _ => none))
def D_S_tray (N : Nat) (n pc : Nat) (lv : ML) (st : List MV) (h : MH) : Option (Int32 × MH) :=
  match Nat.beq pc 0 with
  | true => (match lk lv 0, lk lv 1, lk lv 2, lk lv 3, st with
    | some (.inr (.inr (0, 11, 1))), some (.inl a1), some (.inl a2), some (.inl a3), [] => f_S_tray N a1 a2 a3 h
    | _, _, _, _, _ => none)
  | false => none
set_option maxRecDepth 1000000 in
theorem E_S_tray_0 (N : Nat) (n : Nat) (a1 : Int32) (a2 : Int32) (a3 : Int32) (h : MH) : seg (C_S_tray N) 4 1 rI T_S_tray [0] (fun q lv st h => match Nat.ble 1 q with
    | true => D_S_tray N n q lv st h
    | false => none) 400 true 0 [(0, .inr (.inr (0, 11, 1))), (1, .inl a1), (2, .inl a2), (3, .inl a3)] [] h = f_S_tray N a1 a2 a3 h := (rfl)
def T_S_refusalOfPlace : List (List (Option RW)) := [
  [some (.iload_n 1, 1, [1], 0, 0), some (.invokestatic 105, 3, [2, 152, 1, 0], 0, 0), none, none, some (.ifCond .ne 5, 3, [9], 0, 0), none, none, some (.iconst 1, 1, [], 1, 0), some (.ireturn, 1, [], 0, 0), some (.aload_n 0, 1, [0], 0, 0), some (.getfield 11, 3, [11, 0, 2, 5, 4, 1], 0, 0), none, none, some (.iload_n 1, 1, [1], 0, 0), some (.aaload, 1, [], 0, 0), some (.invokevirtual 136, 3, [1, 84, 1, 0], 0, 0), none, none, some (.ifCond .eq 5, 3, [23], 0, 0), none, none, some (.iconst 2, 1, [], 2, 0), some (.ireturn, 1, [], 0, 0), some (.iload_n 2, 1, [2], 0, 0), some (.aload_n 0, 1, [0], 0, 0), some (.getfield 11, 3, [11, 0, 2, 5, 4, 1], 0, 0), none, none, some (.iload_n 1, 1, [1], 0, 0), some (.aaload, 1, [], 0, 0), some (.getfield 355, 3, [9, 2, 0], 0, 0), none],
  [none, some (.invokestatic 186, 3, [2, 151, 2, 0], 0, 0), none, none, some (.ifCond .eq 7, 3, [43], 0, 0), none, none, some (.iconst 0, 1, [], 0, 0), some (.goto 4, 3, [44], 0, 0), none, none, some (.iconst 3, 1, [], 3, 0), some (.ireturn, 1, [], 0, 0)]]
def f_S_refusalOfPlace (N : Nat) (a1 : Int32) (a2 : Int32) (h : MH) : Option (Int32 × MH) :=
  (f_S_isTray N a1 h).bind (fun x1 =>
  if x1.1 = 0 then
  (some (1, x1.2))
  else
  (if inB a1 4 = true then
  ((f_Tray_isMissing N (gR x1.2 2 (iN a1)) x1.2).bind (fun x2 =>
  if x2.1 = 0 then
  (if inB a1 4 = true then
  ((f_S_isOneOf N a2 (gI x2.2 (gR x2.2 2 (iN a1)) 2) x2.2).bind (fun x3 =>
  if x3.1 = 0 then
  (some (3, x3.2))
  else
  (some (0, x3.2))))
  else none)
  else
  (some (2, x2.2))))
  else none))
def C_S_refusalOfPlace (N : Nat) : MC := (KDL, false, (fun _ => 0), jsB, (fun j => match Nat.beq j 84 with
    | true => w_Tray_isMissing (f_Tray_isMissing N)
    | false => match Nat.beq j 151 with
    | true => w_S_isOneOf (f_S_isOneOf N)
    | false => match Nat.beq j 152 with
    | true => w_S_isTray (f_S_isTray N)
    | false => fun _ _ => none), (fun _ _ _ => none), (fun _ _ _ => none), (fun _ _ _ => none))
def D_S_refusalOfPlace (N : Nat) (n pc : Nat) (lv : ML) (st : List MV) (h : MH) : Option (Int32 × MH) :=
  match Nat.beq pc 0 with
  | true => (match lk lv 0, lk lv 1, lk lv 2, st with
    | some (.inr (.inr (0, 11, 1))), some (.inl a1), some (.inl a2), [] => f_S_refusalOfPlace N a1 a2 h
    | _, _, _, _ => none)
  | false => none
set_option maxRecDepth 1000000 in
theorem E_S_refusalOfPlace_0 (N : Nat) (n : Nat) (a1 : Int32) (a2 : Int32) (h : MH) : seg (C_S_refusalOfPlace N) 3 0 rI T_S_refusalOfPlace [0] (fun q lv st h => match Nat.ble 1 q with
    | true => D_S_refusalOfPlace N n q lv st h
    | false => none) 400 true 0 [(0, .inr (.inr (0, 11, 1))), (1, .inl a1), (2, .inl a2)] [] h = f_S_refusalOfPlace N a1 a2 h := (rfl)
def T_S_write : List (List (Option RW)) := [
  [some (.aload_n 0, 1, [0], 0, 0), some (.iload_n 1, 1, [1], 0, 0), some (.iload_n 2, 1, [2], 0, 0), some (.invokevirtual 120, 3, [0, 160, 3, 0], 0, 0), none, none, some (.istore 5, 2, [5], 0, 0), none, some (.iload 5, 2, [5], 0, 0), none, some (.ifCond .eq 10, 3, [20], 0, 0), none, none, some (.aload_n 0, 1, [0], 0, 0), some (.iload 5, 2, [5], 0, 0), none, some (.invokevirtual 109, 3, [0, 147, 2, 0], 0, 0), none, none, some (.ireturn, 1, [], 0, 0), some (.aload_n 0, 1, [0], 0, 0), some (.getfield 11, 3, [11, 0, 2, 5, 4, 1], 0, 0), none, none, some (.iload_n 1, 1, [1], 0, 0), some (.aaload, 1, [], 0, 0), some (.iload_n 2, 1, [2], 0, 0), some (.lload_n 3, 1, [3], 0, 0), some (.invokevirtual 124, 3, [1, 88, 3, 3], 0, 0), none, none, some (.aload_n 0, 1, [0], 0, 0)],
  [some (.invokevirtual 116, 3, [0, 145, 1, 0], 0, 0), none, none, some (.ireturn, 1, [], 0, 0)]]
def f_S_write (N : Nat) (a1 : Int32) (a2 : Int32) (a3 : Int64) (h : MH) : Option (Int32 × MH) :=
  (f_S_refusalOfPlace N a1 a2 h).bind (fun x1 =>
  if x1.1 = 0 then
  (if inB a1 4 = true then
  ((f_Tray_put N (gR x1.2 2 (iN a1)) a2 a3 x1.2).bind (fun x2 =>
  (f_S_allow N x2).bind (fun x3 =>
  match narOK 1 x3.1 with
  | true => some (x3.1, x3.2)
  | false => none)))
  else none)
  else
  ((f_S_deny N x1.1 x1.2).bind (fun x4 =>
  match narOK 1 x4.1 with
  | true => some (x4.1, x4.2)
  | false => none)))
def C_S_write (N : Nat) : MC := (KDL, false, (fun _ => 0), jsB, (fun j => match Nat.beq j 145 with
    | true => w_S_allow (f_S_allow N)
    | false => match Nat.beq j 147 with
    | true => w_S_deny (f_S_deny N)
    | false => match Nat.beq j 160 with
    | true => w_S_refusalOfPlace (f_S_refusalOfPlace N)
    | false => fun _ _ => none), (fun _ _ _ => none), (fun _ _ _ => none), (fun j => match Nat.beq j 88 with
    | true => w_Tray_put (f_Tray_put N)
    | false => fun _ _ => none))
def D_S_write (N : Nat) (n pc : Nat) (lv : ML) (st : List MV) (h : MH) : Option (Int32 × MH) :=
  match Nat.beq pc 0 with
  | true => (match lk lv 0, lk lv 1, lk lv 2, lk lv 3, st with
    | some (.inr (.inr (0, 11, 1))), some (.inl a1), some (.inl a2), some (.inr (.inl a3)), [] => f_S_write N a1 a2 a3 h
    | _, _, _, _, _ => none)
  | false => none
set_option maxRecDepth 1000000 in
theorem E_S_write_0 (N : Nat) (n : Nat) (a1 : Int32) (a2 : Int32) (a3 : Int64) (h : MH) : seg (C_S_write N) 6 1 rI T_S_write [0] (fun q lv st h => match Nat.ble 1 q with
    | true => D_S_write N n q lv st h
    | false => none) 400 true 0 [(0, .inr (.inr (0, 11, 1))), (1, .inl a1), (2, .inl a2), (3, .inr (.inl a3))] [] h = f_S_write N a1 a2 a3 h := (rfl)
def T_S_refuse : List (List (Option RW)) := [
  [some (.aload_n 0, 1, [0], 0, 0), some (.iload_n 1, 1, [1], 0, 0), some (.putfield 85, 3, [11, 12, 0], 0, 0), none, none, some (.iconst (-1), 1, [], (-1), 0), some (.ireturn, 1, [], 0, 0)]]
def f_S_refuse (N : Nat) (a1 : Int32) (h : MH) : Option (Int32 × MH) :=
  let h1 : MH := sI h 1 12 a1
  some ((-1), h1)
def C_S_refuse (N : Nat) : MC := (KDL, false, (fun _ => 0), jsB, (fun _ _ _ => none), (fun _ _ _ => none), (fun _ _ _ => none), (fun _ _ _ => none))
def D_S_refuse (N : Nat) (n pc : Nat) (lv : ML) (st : List MV) (h : MH) : Option (Int32 × MH) :=
  match Nat.beq pc 0 with
  | true => (match lk lv 0, lk lv 1, st with
    | some (.inr (.inr (0, 11, 1))), some (.inl a1), [] => f_S_refuse N a1 h
    | _, _, _ => none)
  | false => none
set_option maxRecDepth 1000000 in
theorem E_S_refuse_0 (N : Nat) (n : Nat) (a1 : Int32) (h : MH) : seg (C_S_refuse N) 2 0 rI T_S_refuse [0] (fun q lv st h => match Nat.ble 1 q with
    | true => D_S_refuse N n q lv st h
    | false => none) 400 true 0 [(0, .inr (.inr (0, 11, 1))), (1, .inl a1)] [] h = f_S_refuse N a1 h := (rfl)
def T_S_read : List (List (Option RW)) := [
  [some (.aload_n 0, 1, [0], 0, 0), some (.iload_n 1, 1, [1], 0, 0), some (.iload_n 2, 1, [2], 0, 0), some (.invokevirtual 120, 3, [0, 160, 3, 0], 0, 0), none, none, some (.istore_n 3, 1, [3], 0, 0), some (.iload_n 3, 1, [3], 0, 0), some (.ifCond .eq 10, 3, [18], 0, 0), none, none, some (.aload_n 0, 1, [0], 0, 0), some (.iload_n 3, 1, [3], 0, 0), some (.invokevirtual 128, 3, [0, 146, 2, 0], 0, 0), none, none, some (.i2l, 1, [], 0, 0), some (.lreturn, 1, [], 0, 0), some (.aload_n 0, 1, [0], 0, 0), some (.iconst 0, 1, [], 0, 0), some (.putfield 85, 3, [11, 12, 0], 0, 0), none, none, some (.aload_n 0, 1, [0], 0, 0), some (.getfield 11, 3, [11, 0, 2, 5, 4, 1], 0, 0), none, none, some (.iload_n 1, 1, [1], 0, 0), some (.aaload, 1, [], 0, 0), some (.iload_n 2, 1, [2], 0, 0), some (.invokevirtual 132, 3, [1, 87, 2, 1], 0, 0), none],
  [none, some (.lreturn, 1, [], 0, 0)]]
def f_S_read (N : Nat) (a1 : Int32) (a2 : Int32) (h : MH) : Option (Int64 × MH) :=
  (f_S_refusalOfPlace N a1 a2 h).bind (fun x1 =>
  if x1.1 = 0 then
  (let h2 : MH := sI x1.2 1 12 0
  if inB a1 4 = true then
  ((f_Tray_at N (gR h2 2 (iN a1)) a2 h2).bind (fun x3 =>
  some (x3.1, x3.2)))
  else none)
  else
  ((f_S_refuse N x1.1 x1.2).bind (fun x4 =>
  some (x4.1.toInt64, x4.2))))
def C_S_read (N : Nat) : MC := (KDL, false, (fun _ => 0), jsB, (fun j => match Nat.beq j 146 with
    | true => w_S_refuse (f_S_refuse N)
    | false => match Nat.beq j 160 with
    | true => w_S_refusalOfPlace (f_S_refusalOfPlace N)
    | false => fun _ _ => none), (fun j => match Nat.beq j 87 with
    | true => w_Tray_at (f_Tray_at N)
    | false => fun _ _ => none), (fun _ _ _ => none), (fun _ _ _ => none))
def D_S_read (N : Nat) (n pc : Nat) (lv : ML) (st : List MV) (h : MH) : Option (Int64 × MH) :=
  match Nat.beq pc 0 with
  | true => (match lk lv 0, lk lv 1, lk lv 2, st with
    | some (.inr (.inr (0, 11, 1))), some (.inl a1), some (.inl a2), [] => f_S_read N a1 a2 h
    | _, _, _, _ => none)
  | false => none
set_option maxRecDepth 1000000 in
theorem E_S_read_0 (N : Nat) (n : Nat) (a1 : Int32) (a2 : Int32) (h : MH) : seg (C_S_read N) 4 0 rJ T_S_read [0] (fun q lv st h => match Nat.ble 1 q with
    | true => D_S_read N n q lv st h
    | false => none) 400 true 0 [(0, .inr (.inr (0, 11, 1))), (1, .inl a1), (2, .inl a2)] [] h = f_S_read N a1 a2 h := (rfl)
def T_S_pour : List (List (Option RW)) := [
  [some (.iload_n 1, 1, [1], 0, 0), some (.invokestatic 105, 3, [2, 152, 1, 0], 0, 0), none, none, some (.ifCond .eq 24, 3, [28], 0, 0), none, none, some (.iload_n 3, 1, [3], 0, 0), some (.invokestatic 105, 3, [2, 152, 1, 0], 0, 0), none, none, some (.ifCond .eq 17, 3, [28], 0, 0), none, none, some (.iload_n 2, 1, [2], 0, 0), some (.ifCond .lt 13, 3, [28], 0, 0), none, none, some (.iload 4, 2, [4], 0, 0), none, some (.ifCond .lt 8, 3, [28], 0, 0), none, none, some (.iload 5, 2, [5], 0, 0), none, some (.ifCond .ge 9, 3, [34], 0, 0), none, none, some (.aload_n 0, 1, [0], 0, 0), some (.iconst 1, 1, [], 1, 0), some (.invokevirtual 109, 3, [0, 147, 2, 0], 0, 0), none],
  [none, some (.ireturn, 1, [], 0, 0), some (.aload_n 0, 1, [0], 0, 0), some (.getfield 11, 3, [11, 0, 2, 5, 4, 1], 0, 0), none, none, some (.iload_n 1, 1, [1], 0, 0), some (.aaload, 1, [], 0, 0), some (.astore 6, 2, [6], 0, 0), none, some (.aload_n 0, 1, [0], 0, 0), some (.getfield 11, 3, [11, 0, 2, 5, 4, 1], 0, 0), none, none, some (.iload_n 3, 1, [3], 0, 0), some (.aaload, 1, [], 0, 0), some (.astore 7, 2, [7], 0, 0), none, some (.aload 6, 2, [6], 0, 0), none, some (.invokevirtual 136, 3, [1, 84, 1, 0], 0, 0), none, none, some (.ifCond .ne 11, 3, [66], 0, 0), none, none, some (.aload 7, 2, [7], 0, 0), none, some (.invokevirtual 136, 3, [1, 84, 1, 0], 0, 0), none, none, some (.ifCond .eq 9, 3, [72], 0, 0)],
  [none, none, some (.aload_n 0, 1, [0], 0, 0), some (.iconst 2, 1, [], 2, 0), some (.invokevirtual 109, 3, [0, 147, 2, 0], 0, 0), none, none, some (.ireturn, 1, [], 0, 0), some (.aload 6, 2, [6], 0, 0), none, some (.getfield 139, 3, [9, 1, 0], 0, 0), none, none, some (.aload 7, 2, [7], 0, 0), none, some (.getfield 139, 3, [9, 1, 0], 0, 0), none, none, some (.if_icmp .eq 10, 3, [92], 0, 0), none, none, some (.aload_n 0, 1, [0], 0, 0), some (.bipush 8, 2, [], 8, 0), none, some (.invokevirtual 109, 3, [0, 147, 2, 0], 0, 0), none, none, some (.ireturn, 1, [], 0, 0), some (.aload 6, 2, [6], 0, 0), none, some (.iload_n 2, 1, [2], 0, 0), some (.iload 5, 2, [5], 0, 0)],
  [none, some (.invokevirtual 142, 3, [1, 86, 3, 0], 0, 0), none, none, some (.ifCond .eq 15, 3, [115], 0, 0), none, none, some (.aload 7, 2, [7], 0, 0), none, some (.iload 4, 2, [4], 0, 0), none, some (.iload 5, 2, [5], 0, 0), none, some (.invokevirtual 142, 3, [1, 86, 3, 0], 0, 0), none, none, some (.ifCond .ne 9, 3, [121], 0, 0), none, none, some (.aload_n 0, 1, [0], 0, 0), some (.iconst 3, 1, [], 3, 0), some (.invokevirtual 109, 3, [0, 147, 2, 0], 0, 0), none, none, some (.ireturn, 1, [], 0, 0), some (.aload 6, 2, [6], 0, 0), none, some (.getfield 146, 3, [9, 0, 2, 2, 60, 1], 0, 0), none, none, some (.iload_n 2, 1, [2], 0, 0), some (.aload 7, 2, [7], 0, 0)],
  [none, some (.getfield 146, 3, [9, 0, 2, 2, 60, 1], 0, 0), none, none, some (.iload 4, 2, [4], 0, 0), none, some (.iload 5, 2, [5], 0, 0), none, some (.invokestatic 150, 3, [9], 0, 0), none, none, some (.aload_n 0, 1, [0], 0, 0), some (.invokevirtual 116, 3, [0, 145, 1, 0], 0, 0), none, none, some (.ireturn, 1, [], 0, 0)]]
def f_S_pour (N : Nat) (a1 : Int32) (a2 : Int32) (a3 : Int32) (a4 : Int32) (a5 : Int32) (h : MH) : Option (Int32 × MH) :=
  (f_S_isTray N a1 h).bind (fun x1 =>
  if x1.1 = 0 then
  ((f_S_deny N 1 x1.2).bind (fun x2 =>
  match narOK 1 x2.1 with
  | true => some (x2.1, x2.2)
  | false => none))
  else
  ((f_S_isTray N a3 x1.2).bind (fun x3 =>
  if x3.1 = 0 then
  ((f_S_deny N 1 x3.2).bind (fun x4 =>
  match narOK 1 x4.1 with
  | true => some (x4.1, x4.2)
  | false => none))
  else
  (if a2 < 0 then
  ((f_S_deny N 1 x3.2).bind (fun x5 =>
  match narOK 1 x5.1 with
  | true => some (x5.1, x5.2)
  | false => none))
  else
  (if a4 < 0 then
  ((f_S_deny N 1 x3.2).bind (fun x6 =>
  match narOK 1 x6.1 with
  | true => some (x6.1, x6.2)
  | false => none))
  else
  (if 0 ≤ a5 then
  (if inB a1 4 = true then
  (if inB a3 4 = true then
  ((f_Tray_isMissing N (gR x3.2 2 (iN a1)) x3.2).bind (fun x7 =>
  if x7.1 = 0 then
  ((f_Tray_isMissing N (gR x3.2 2 (iN a3)) x7.2).bind (fun x8 =>
  if x8.1 = 0 then
  (if (gI x8.2 (gR x3.2 2 (iN a1)) 1) = (gI x8.2 (gR x3.2 2 (iN a3)) 1) then
  ((f_Tray_reaches N (gR x3.2 2 (iN a1)) a2 a5 x8.2).bind (fun x9 =>
  if x9.1 = 0 then
  ((f_S_deny N 3 x9.2).bind (fun x10 =>
  match narOK 1 x10.1 with
  | true => some (x10.1, x10.2)
  | false => none))
  else
  ((f_Tray_reaches N (gR x3.2 2 (iN a3)) a4 a5 x9.2).bind (fun x11 =>
  if x11.1 = 0 then
  ((f_S_deny N 3 x11.2).bind (fun x12 =>
  match narOK 1 x12.1 with
  | true => some (x12.1, x12.2)
  | false => none))
  else
  (if 0 ≤ a5 ∧ 0 ≤ a2 ∧ 0 ≤ a4 ∧ iN a2 + iN a5 ≤ 60 ∧ iN a4 + iN a5 ≤ 60 then
  (let h13 : MH := cJ x11.2 ((gR x3.2 2 (iN a1)) + 1) ((gR x3.2 2 (iN a3)) + 1) (iN a2) (iN a4) (iN a5)
  (f_S_allow N h13).bind (fun x14 =>
  match narOK 1 x14.1 with
  | true => some (x14.1, x14.2)
  | false => none))
  else none)))))
  else
  ((f_S_deny N 8 x8.2).bind (fun x15 =>
  match narOK 1 x15.1 with
  | true => some (x15.1, x15.2)
  | false => none)))
  else
  ((f_S_deny N 2 x8.2).bind (fun x16 =>
  match narOK 1 x16.1 with
  | true => some (x16.1, x16.2)
  | false => none))))
  else
  ((f_S_deny N 2 x7.2).bind (fun x17 =>
  match narOK 1 x17.1 with
  | true => some (x17.1, x17.2)
  | false => none))))
  else none)
  else none)
  else
  ((f_S_deny N 1 x3.2).bind (fun x18 =>
  match narOK 1 x18.1 with
  | true => some (x18.1, x18.2)
  | false => none))))))))
def C_S_pour (N : Nat) : MC := (KDL, false, (fun _ => 0), jsB, (fun j => match Nat.beq j 84 with
    | true => w_Tray_isMissing (f_Tray_isMissing N)
    | false => match Nat.beq j 86 with
    | true => w_Tray_reaches (f_Tray_reaches N)
    | false => match Nat.beq j 145 with
    | true => w_S_allow (f_S_allow N)
    | false => match Nat.beq j 147 with
    | true => w_S_deny (f_S_deny N)
    | false => match Nat.beq j 152 with
    | true => w_S_isTray (f_S_isTray N)
    | false => fun _ _ => none), (fun _ _ _ => none), (fun _ _ _ => none), (fun _ _ _ => none))
def D_S_pour (N : Nat) (n pc : Nat) (lv : ML) (st : List MV) (h : MH) : Option (Int32 × MH) :=
  match Nat.beq pc 0 with
  | true => (match lk lv 0, lk lv 1, lk lv 2, lk lv 3, lk lv 4, lk lv 5, st with
    | some (.inr (.inr (0, 11, 1))), some (.inl a1), some (.inl a2), some (.inl a3), some (.inl a4), some (.inl a5), [] => f_S_pour N a1 a2 a3 a4 a5 h
    | _, _, _, _, _, _, _ => none)
  | false => none
set_option maxRecDepth 1000000 in
theorem E_S_pour_0 (N : Nat) (n : Nat) (a1 : Int32) (a2 : Int32) (a3 : Int32) (a4 : Int32) (a5 : Int32) (h : MH) : seg (C_S_pour N) 8 1 rI T_S_pour [0] (fun q lv st h => match Nat.ble 1 q with
    | true => D_S_pour N n q lv st h
    | false => none) 400 true 0 [(0, .inr (.inr (0, 11, 1))), (1, .inl a1), (2, .inl a2), (3, .inl a3), (4, .inl a4), (5, .inl a5)] [] h = f_S_pour N a1 a2 a3 a4 a5 h := (rfl)
def T_S_feed : List (List (Option RW)) := [
  [some (.aload_n 0, 1, [0], 0, 0), some (.getfield 18, 3, [11, 1, 2, 0, 7, 2], 0, 0), none, none, some (.invokevirtual 156, 3, [1, 52, 1, 0], 0, 0), none, none, some (.ifCond .ne 5, 3, [12], 0, 0), none, none, some (.iconst (-1), 1, [], (-1), 0), some (.ireturn, 1, [], 0, 0), some (.aload_n 0, 1, [0], 0, 0), some (.getfield 18, 3, [11, 1, 2, 0, 7, 2], 0, 0), none, none, some (.iload_n 1, 1, [1], 0, 0), some (.invokevirtual 159, 3, [1, 53, 2, 3], 0, 0), none, none, some (.aload_n 0, 1, [0], 0, 0), some (.getfield 18, 3, [11, 1, 2, 0, 7, 2], 0, 0), none, none, some (.iload_n 2, 1, [2], 0, 0), some (.invokevirtual 159, 3, [1, 53, 2, 3], 0, 0), none, none, some (.aload_n 0, 1, [0], 0, 0), some (.getfield 18, 3, [11, 1, 2, 0, 7, 2], 0, 0), none, none],
  [some (.iload_n 3, 1, [3], 0, 0), some (.invokevirtual 159, 3, [1, 53, 2, 3], 0, 0), none, none, some (.aload_n 0, 1, [0], 0, 0), some (.getfield 18, 3, [11, 1, 2, 0, 7, 2], 0, 0), none, none, some (.iload 4, 2, [4], 0, 0), none, some (.invokevirtual 159, 3, [1, 53, 2, 3], 0, 0), none, none, some (.aload_n 0, 1, [0], 0, 0), some (.getfield 18, 3, [11, 1, 2, 0, 7, 2], 0, 0), none, none, some (.iload 5, 2, [5], 0, 0), none, some (.invokevirtual 159, 3, [1, 53, 2, 3], 0, 0), none, none, some (.aload_n 0, 1, [0], 0, 0), some (.getfield 18, 3, [11, 1, 2, 0, 7, 2], 0, 0), none, none, some (.getfield 163, 3, [7, 1, 0], 0, 0), none, none, some (.ireturn, 1, [], 0, 0)]]
def f_S_feed (N : Nat) (a1 : Int32) (a2 : Int32) (a3 : Int32) (a4 : Int32) (a5 : Int32) (h : MH) : Option (Int32 × MH) :=
  (f_Reader_hasRoom N h).bind (fun x1 =>
  if x1.1 = 0 then
  (some ((-1), x1.2))
  else
  ((f_Reader_append N a1 x1.2).bind (fun x2 =>
  (f_Reader_append N a2 x2).bind (fun x3 =>
  (f_Reader_append N a3 x3).bind (fun x4 =>
  (f_Reader_append N a4 x4).bind (fun x5 =>
  (f_Reader_append N a5 x5).bind (fun x6 =>
  some (gI x6 3 1, x6))))))))
def C_S_feed (N : Nat) : MC := (KDL, false, (fun _ => 0), jsB, (fun j => match Nat.beq j 52 with
    | true => w_Reader_hasRoom (f_Reader_hasRoom N)
    | false => fun _ _ => none), (fun _ _ _ => none), (fun _ _ _ => none), (fun j => match Nat.beq j 53 with
    | true => w_Reader_append (f_Reader_append N)
    | false => fun _ _ => none))
def D_S_feed (N : Nat) (n pc : Nat) (lv : ML) (st : List MV) (h : MH) : Option (Int32 × MH) :=
  match Nat.beq pc 0 with
  | true => (match lk lv 0, lk lv 1, lk lv 2, lk lv 3, lk lv 4, lk lv 5, st with
    | some (.inr (.inr (0, 11, 1))), some (.inl a1), some (.inl a2), some (.inl a3), some (.inl a4), some (.inl a5), [] => f_S_feed N a1 a2 a3 a4 a5 h
    | _, _, _, _, _, _, _ => none)
  | false => none
set_option maxRecDepth 1000000 in
theorem E_S_feed_0 (N : Nat) (n : Nat) (a1 : Int32) (a2 : Int32) (a3 : Int32) (a4 : Int32) (a5 : Int32) (h : MH) : seg (C_S_feed N) 6 0 rI T_S_feed [0] (fun q lv st h => match Nat.ble 1 q with
    | true => D_S_feed N n q lv st h
    | false => none) 400 true 0 [(0, .inr (.inr (0, 11, 1))), (1, .inl a1), (2, .inl a2), (3, .inl a3), (4, .inl a4), (5, .inl a5)] [] h = f_S_feed N a1 a2 a3 a4 a5 h := (rfl)
def T_S_answer : List (List (Option RW)) := [
  [some (.aload_n 0, 1, [0], 0, 0), some (.iconst 0, 1, [], 0, 0), some (.putfield 85, 3, [11, 12, 0], 0, 0), none, none, some (.iload_n 1, 1, [1], 0, 0), some (.ireturn, 1, [], 0, 0)]]
def f_S_answer (N : Nat) (a1 : Int32) (h : MH) : Option (Int32 × MH) :=
  let h1 : MH := sI h 1 12 0
  some (a1, h1)
def C_S_answer (N : Nat) : MC := (KDL, false, (fun _ => 0), jsB, (fun _ _ _ => none), (fun _ _ _ => none), (fun _ _ _ => none), (fun _ _ _ => none))
def D_S_answer (N : Nat) (n pc : Nat) (lv : ML) (st : List MV) (h : MH) : Option (Int32 × MH) :=
  match Nat.beq pc 0 with
  | true => (match lk lv 0, lk lv 1, st with
    | some (.inr (.inr (0, 11, 1))), some (.inl a1), [] => f_S_answer N a1 h
    | _, _, _ => none)
  | false => none
set_option maxRecDepth 1000000 in
theorem E_S_answer_0 (N : Nat) (n : Nat) (a1 : Int32) (h : MH) : seg (C_S_answer N) 2 0 rI T_S_answer [0] (fun q lv st h => match Nat.ble 1 q with
    | true => D_S_answer N n q lv st h
    | false => none) 400 true 0 [(0, .inr (.inr (0, 11, 1))), (1, .inl a1)] [] h = f_S_answer N a1 h := (rfl)
def T_S_land : List (List (Option RW)) := [
  [some (.iload_n 1, 1, [1], 0, 0), some (.ifCond .lt 14, 3, [15], 0, 0), none, none, some (.iload_n 1, 1, [1], 0, 0), some (.aload_n 0, 1, [0], 0, 0), some (.getfield 18, 3, [11, 1, 2, 0, 7, 2], 0, 0), none, none, some (.getfield 163, 3, [7, 1, 0], 0, 0), none, none, some (.if_icmp .le 9, 3, [21], 0, 0), none, none, some (.aload_n 0, 1, [0], 0, 0), some (.iconst 1, 1, [], 1, 0), some (.invokevirtual 128, 3, [0, 146, 2, 0], 0, 0), none, none, some (.ireturn, 1, [], 0, 0), some (.aload_n 0, 1, [0], 0, 0), some (.getfield 18, 3, [11, 1, 2, 0, 7, 2], 0, 0), none, none, some (.iload_n 1, 1, [1], 0, 0), some (.invokevirtual 166, 3, [1, 55, 2, 0], 0, 0), none, none, some (.istore_n 2, 1, [2], 0, 0), some (.aload_n 0, 1, [0], 0, 0), some (.aload_n 0, 1, [0], 0, 0)],
  [some (.getfield 18, 3, [11, 1, 2, 0, 7, 2], 0, 0), none, none, some (.getfield 169, 3, [7, 7, 0], 0, 0), none, none, some (.putfield 89, 3, [11, 13, 0], 0, 0), none, none, some (.aload_n 0, 1, [0], 0, 0), some (.aload_n 0, 1, [0], 0, 0), some (.getfield 18, 3, [11, 1, 2, 0, 7, 2], 0, 0), none, none, some (.getfield 172, 3, [7, 8, 0], 0, 0), none, none, some (.putfield 92, 3, [11, 14, 0], 0, 0), none, none, some (.aload_n 0, 1, [0], 0, 0), some (.getfield 89, 3, [11, 13, 0], 0, 0), none, none, some (.ifCond .eq 10, 3, [66], 0, 0), none, none, some (.aload_n 0, 1, [0], 0, 0), some (.bipush 9, 2, [], 9, 0), none, some (.invokevirtual 128, 3, [0, 146, 2, 0], 0, 0), none],
  [none, some (.ireturn, 1, [], 0, 0), some (.aload_n 0, 1, [0], 0, 0), some (.aload_n 0, 1, [0], 0, 0), some (.getfield 18, 3, [11, 1, 2, 0, 7, 2], 0, 0), none, none, some (.aload_n 0, 1, [0], 0, 0), some (.getfield 81, 3, [11, 11, 3, 0, 2], 0, 0), none, none, some (.invokevirtual 175, 3, [1, 54, 2, 2, 0, 2], 0, 0), none, none, some (.putfield 81, 3, [11, 11, 3, 0, 2], 0, 0), none, none, some (.aload_n 0, 1, [0], 0, 0), some (.getfield 25, 3, [11, 2, 2, 0, 3, 15], 0, 0), none, none, some (.invokevirtual 179, 3, [1, 18, 1, 3], 0, 0), none, none, some (.aload_n 0, 1, [0], 0, 0), some (.getfield 39, 3, [11, 4, 2, 0, 8, 28], 0, 0), none, none, some (.invokevirtual 182, 3, [1, 80, 1, 3], 0, 0), none, none, some (.aload_n 0, 1, [0], 0, 0)],
  [some (.iload_n 2, 1, [2], 0, 0), some (.invokevirtual 183, 3, [0, 144, 2, 0], 0, 0), none, none, some (.ireturn, 1, [], 0, 0)]]
def f_S_land (N : Nat) (a1 : Int32) (h : MH) : Option (Int32 × MH) :=
  if a1 < 0 then
  ((f_S_refuse N 1 h).bind (fun x1 =>
  some (x1.1, x1.2)))
  else
  (if a1 ≤ (gI h 3 1) then
  ((f_Reader_readParts N a1 h).bind (fun x2 =>
  let h3 : MH := sI x2.2 1 13 (gI x2.2 3 7)
  let h4 : MH := sI h3 1 14 (gI h3 3 8)
  if (gI h4 1 13) = 0 then
  ((f_Reader_trade N (gR h4 1 11) h4).bind (fun x5 =>
  let h6 : MH := sR x5.2 1 11 x5.1
  (f_Ledger_clear N h6).bind (fun x7 =>
  (f_Shakes_clear N x7).bind (fun x8 =>
  (f_S_answer N x2.1 x8).bind (fun x9 =>
  some (x9.1, x9.2))))))
  else
  ((f_S_refuse N 9 h4).bind (fun x10 =>
  some (x10.1, x10.2)))))
  else
  ((f_S_refuse N 1 h).bind (fun x11 =>
  some (x11.1, x11.2))))
def C_S_land (N : Nat) : MC := (KDL, false, (fun _ => 0), jsB, (fun j => match Nat.beq j 55 with
    | true => w_Reader_readParts (f_Reader_readParts N)
    | false => match Nat.beq j 144 with
    | true => w_S_answer (f_S_answer N)
    | false => match Nat.beq j 146 with
    | true => w_S_refuse (f_S_refuse N)
    | false => fun _ _ => none), (fun _ _ _ => none), (fun j => match Nat.beq j 54 with
    | true => w_Reader_trade (f_Reader_trade N)
    | false => fun _ _ => none), (fun j => match Nat.beq j 18 with
    | true => w_Ledger_clear (f_Ledger_clear N)
    | false => match Nat.beq j 80 with
    | true => w_Shakes_clear (f_Shakes_clear N)
    | false => fun _ _ => none))
def D_S_land (N : Nat) (n pc : Nat) (lv : ML) (st : List MV) (h : MH) : Option (Int32 × MH) :=
  match Nat.beq pc 0 with
  | true => (match lk lv 0, lk lv 1, st with
    | some (.inr (.inr (0, 11, 1))), some (.inl a1), [] => f_S_land N a1 h
    | _, _, _ => none)
  | false => none
set_option maxRecDepth 1000000 in
theorem E_S_land_0 (N : Nat) (n : Nat) (a1 : Int32) (h : MH) : seg (C_S_land N) 3 0 rI T_S_land [0] (fun q lv st h => match Nat.ble 1 q with
    | true => D_S_land N n q lv st h
    | false => none) 400 true 0 [(0, .inr (.inr (0, 11, 1))), (1, .inl a1)] [] h = f_S_land N a1 h := (rfl)
def T_S_fault : List (List (Option RW)) := [
  [some (.iload_n 1, 1, [1], 0, 0), some (.ifCond .ne 8, 3, [9], 0, 0), none, none, some (.aload_n 0, 1, [0], 0, 0), some (.getfield 89, 3, [11, 13, 0], 0, 0), none, none, some (.ireturn, 1, [], 0, 0), some (.iload_n 1, 1, [1], 0, 0), some (.iconst 1, 1, [], 1, 0), some (.if_icmp .ne 10, 3, [21], 0, 0), none, none, some (.aload_n 0, 1, [0], 0, 0), some (.getfield 92, 3, [11, 14, 0], 0, 0), none, none, some (.goto 4, 3, [22], 0, 0), none, none, some (.iconst (-1), 1, [], (-1), 0), some (.ireturn, 1, [], 0, 0)]]
def f_S_fault (N : Nat) (a1 : Int32) (h : MH) : Option (Int32 × MH) :=
  if a1 = 0 then
  (some (gI h 1 13, h))
  else
  (if a1 = 1 then
  (some (gI h 1 14, h))
  else
  (some ((-1), h)))
def C_S_fault (N : Nat) : MC := (KDL, false, (fun _ => 0), jsB, (fun _ _ _ => none), (fun _ _ _ => none), (fun _ _ _ => none), (fun _ _ _ => none))
def D_S_fault (N : Nat) (n pc : Nat) (lv : ML) (st : List MV) (h : MH) : Option (Int32 × MH) :=
  match Nat.beq pc 0 with
  | true => (match lk lv 0, lk lv 1, st with
    | some (.inr (.inr (0, 11, 1))), some (.inl a1), [] => f_S_fault N a1 h
    | _, _, _ => none)
  | false => none
set_option maxRecDepth 1000000 in
theorem E_S_fault_0 (N : Nat) (n : Nat) (a1 : Int32) (h : MH) : seg (C_S_fault N) 2 0 rI T_S_fault [0] (fun q lv st h => match Nat.ble 1 q with
    | true => D_S_fault N n q lv st h
    | false => none) 400 true 0 [(0, .inr (.inr (0, 11, 1))), (1, .inl a1)] [] h = f_S_fault N a1 h := (rfl)
def T_S_many : List (List (Option RW)) := [
  [some (.iload_n 1, 1, [1], 0, 0), some (.iconst 2, 1, [], 2, 0), some (.invokestatic 186, 3, [2, 151, 2, 0], 0, 0), none, none, some (.ifCond .ne 9, 3, [14], 0, 0), none, none, some (.aload_n 0, 1, [0], 0, 0), some (.iconst 1, 1, [], 1, 0), some (.invokevirtual 128, 3, [0, 146, 2, 0], 0, 0), none, none, some (.ireturn, 1, [], 0, 0), some (.aload_n 0, 1, [0], 0, 0), some (.iload_n 1, 1, [1], 0, 0), some (.ifCond .ne 13, 3, [29], 0, 0), none, none, some (.aload_n 0, 1, [0], 0, 0), some (.getfield 81, 3, [11, 11, 3, 0, 2], 0, 0), none, none, some (.getfield 189, 3, [2, 0, 0], 0, 0), none, none, some (.goto 10, 3, [36], 0, 0), none, none, some (.aload_n 0, 1, [0], 0, 0), some (.getfield 81, 3, [11, 11, 3, 0, 2], 0, 0), none],
  [none, some (.getfield 192, 3, [2, 1, 0], 0, 0), none, none, some (.invokevirtual 183, 3, [0, 144, 2, 0], 0, 0), none, none, some (.ireturn, 1, [], 0, 0)]]
def f_S_many (N : Nat) (a1 : Int32) (h : MH) : Option (Int32 × MH) :=
  (f_S_isOneOf N a1 2 h).bind (fun x1 =>
  if x1.1 = 0 then
  ((f_S_refuse N 1 x1.2).bind (fun x2 =>
  some (x2.1, x2.2)))
  else
  (if a1 = 0 then
  ((f_S_answer N (gI x1.2 (gR x1.2 1 11) 0) x1.2).bind (fun x3 =>
  some (x3.1, x3.2)))
  else
  ((f_S_answer N (gI x1.2 (gR x1.2 1 11) 1) x1.2).bind (fun x4 =>
  some (x4.1, x4.2)))))
def C_S_many (N : Nat) : MC := (KDL, false, (fun _ => 0), jsB, (fun j => match Nat.beq j 144 with
    | true => w_S_answer (f_S_answer N)
    | false => match Nat.beq j 146 with
    | true => w_S_refuse (f_S_refuse N)
    | false => match Nat.beq j 151 with
    | true => w_S_isOneOf (f_S_isOneOf N)
    | false => fun _ _ => none), (fun _ _ _ => none), (fun _ _ _ => none), (fun _ _ _ => none))
def D_S_many (N : Nat) (n pc : Nat) (lv : ML) (st : List MV) (h : MH) : Option (Int32 × MH) :=
  match Nat.beq pc 0 with
  | true => (match lk lv 0, lk lv 1, st with
    | some (.inr (.inr (0, 11, 1))), some (.inl a1), [] => f_S_many N a1 h
    | _, _, _ => none)
  | false => none
set_option maxRecDepth 1000000 in
theorem E_S_many_0 (N : Nat) (n : Nat) (a1 : Int32) (h : MH) : seg (C_S_many N) 2 0 rI T_S_many [0] (fun q lv st h => match Nat.ble 1 q with
    | true => D_S_many N n q lv st h
    | false => none) 400 true 0 [(0, .inr (.inr (0, 11, 1))), (1, .inl a1)] [] h = f_S_many N a1 h := (rfl)
def T_S_isCell : List (List (Option RW)) := [
  [some (.iload_n 1, 1, [1], 0, 0), some (.aload_n 0, 1, [0], 0, 0), some (.getfield 81, 3, [11, 11, 3, 0, 2], 0, 0), none, none, some (.getfield 189, 3, [2, 0, 0], 0, 0), none, none, some (.invokestatic 186, 3, [2, 151, 2, 0], 0, 0), none, none, some (.ireturn, 1, [], 0, 0)]]
def f_S_isCell (N : Nat) (a1 : Int32) (h : MH) : Option (Int32 × MH) :=
  (f_S_isOneOf N a1 (gI h (gR h 1 11) 0) h).bind (fun x1 =>
  match narOK 1 x1.1 with
  | true => some (x1.1, x1.2)
  | false => none)
def C_S_isCell (N : Nat) : MC := (KDL, false, (fun _ => 0), jsB, (fun j => match Nat.beq j 151 with
    | true => w_S_isOneOf (f_S_isOneOf N)
    | false => fun _ _ => none), (fun _ _ _ => none), (fun _ _ _ => none), (fun _ _ _ => none))
def D_S_isCell (N : Nat) (n pc : Nat) (lv : ML) (st : List MV) (h : MH) : Option (Int32 × MH) :=
  match Nat.beq pc 0 with
  | true => (match lk lv 0, lk lv 1, st with
    | some (.inr (.inr (0, 11, 1))), some (.inl a1), [] => f_S_isCell N a1 h
    | _, _, _ => none)
  | false => none
set_option maxRecDepth 1000000 in
theorem E_S_isCell_0 (N : Nat) (n : Nat) (a1 : Int32) (h : MH) : seg (C_S_isCell N) 2 1 rI T_S_isCell [0] (fun q lv st h => match Nat.ble 1 q with
    | true => D_S_isCell N n q lv st h
    | false => none) 400 true 0 [(0, .inr (.inr (0, 11, 1))), (1, .inl a1)] [] h = f_S_isCell N a1 h := (rfl)
def T_S_isMark : List (List (Option RW)) := [
  [some (.iload_n 1, 1, [1], 0, 0), some (.aload_n 0, 1, [0], 0, 0), some (.getfield 81, 3, [11, 11, 3, 0, 2], 0, 0), none, none, some (.getfield 192, 3, [2, 1, 0], 0, 0), none, none, some (.invokestatic 186, 3, [2, 151, 2, 0], 0, 0), none, none, some (.ireturn, 1, [], 0, 0)]]
def f_S_isMark (N : Nat) (a1 : Int32) (h : MH) : Option (Int32 × MH) :=
  (f_S_isOneOf N a1 (gI h (gR h 1 11) 1) h).bind (fun x1 =>
  match narOK 1 x1.1 with
  | true => some (x1.1, x1.2)
  | false => none)
def C_S_isMark (N : Nat) : MC := (KDL, false, (fun _ => 0), jsB, (fun j => match Nat.beq j 151 with
    | true => w_S_isOneOf (f_S_isOneOf N)
    | false => fun _ _ => none), (fun _ _ _ => none), (fun _ _ _ => none), (fun _ _ _ => none))
def D_S_isMark (N : Nat) (n pc : Nat) (lv : ML) (st : List MV) (h : MH) : Option (Int32 × MH) :=
  match Nat.beq pc 0 with
  | true => (match lk lv 0, lk lv 1, st with
    | some (.inr (.inr (0, 11, 1))), some (.inl a1), [] => f_S_isMark N a1 h
    | _, _, _ => none)
  | false => none
set_option maxRecDepth 1000000 in
theorem E_S_isMark_0 (N : Nat) (n : Nat) (a1 : Int32) (h : MH) : seg (C_S_isMark N) 2 1 rI T_S_isMark [0] (fun q lv st h => match Nat.ble 1 q with
    | true => D_S_isMark N n q lv st h
    | false => none) 400 true 0 [(0, .inr (.inr (0, 11, 1))), (1, .inl a1)] [] h = f_S_isMark N a1 h := (rfl)
def T_S_moves : List (List (Option RW)) := [
  [some (.aload_n 0, 1, [0], 0, 0), some (.iload_n 1, 1, [1], 0, 0), some (.invokevirtual 195, 3, [0, 156, 2, 0], 0, 0), none, none, some (.ifCond .eq 11, 3, [16], 0, 0), none, none, some (.aload_n 0, 1, [0], 0, 0), some (.iload_n 2, 1, [2], 0, 0), some (.invokevirtual 198, 3, [0, 157, 2, 0], 0, 0), none, none, some (.ifCond .ne 9, 3, [22], 0, 0), none, none, some (.aload_n 0, 1, [0], 0, 0), some (.iconst 1, 1, [], 1, 0), some (.invokevirtual 128, 3, [0, 146, 2, 0], 0, 0), none, none, some (.ireturn, 1, [], 0, 0), some (.aload_n 0, 1, [0], 0, 0), some (.aload_n 0, 1, [0], 0, 0), some (.getfield 81, 3, [11, 11, 3, 0, 2], 0, 0), none, none, some (.iload_n 1, 1, [1], 0, 0), some (.iload_n 2, 1, [2], 0, 0), some (.invokevirtual 201, 3, [1, 15, 3, 0], 0, 0), none, none],
  [some (.invokevirtual 183, 3, [0, 144, 2, 0], 0, 0), none, none, some (.ireturn, 1, [], 0, 0)]]
def f_S_moves (N : Nat) (a1 : Int32) (a2 : Int32) (h : MH) : Option (Int32 × MH) :=
  (f_S_isCell N a1 h).bind (fun x1 =>
  if x1.1 = 0 then
  ((f_S_refuse N 1 x1.2).bind (fun x2 =>
  some (x2.1, x2.2)))
  else
  ((f_S_isMark N a2 x1.2).bind (fun x3 =>
  if x3.1 = 0 then
  ((f_S_refuse N 1 x3.2).bind (fun x4 =>
  some (x4.1, x4.2)))
  else
  ((f_Land_unit N (gR x3.2 1 11) a1 a2 x3.2).bind (fun x5 =>
  (f_S_answer N x5.1 x5.2).bind (fun x6 =>
  some (x6.1, x6.2)))))))
def C_S_moves (N : Nat) : MC := (KDL, false, (fun _ => 0), jsB, (fun j => match Nat.beq j 15 with
    | true => w_Land_unit (f_Land_unit N)
    | false => match Nat.beq j 144 with
    | true => w_S_answer (f_S_answer N)
    | false => match Nat.beq j 146 with
    | true => w_S_refuse (f_S_refuse N)
    | false => match Nat.beq j 156 with
    | true => w_S_isCell (f_S_isCell N)
    | false => match Nat.beq j 157 with
    | true => w_S_isMark (f_S_isMark N)
    | false => fun _ _ => none), (fun _ _ _ => none), (fun _ _ _ => none), (fun _ _ _ => none))
def D_S_moves (N : Nat) (n pc : Nat) (lv : ML) (st : List MV) (h : MH) : Option (Int32 × MH) :=
  match Nat.beq pc 0 with
  | true => (match lk lv 0, lk lv 1, lk lv 2, st with
    | some (.inr (.inr (0, 11, 1))), some (.inl a1), some (.inl a2), [] => f_S_moves N a1 a2 h
    | _, _, _, _ => none)
  | false => none
set_option maxRecDepth 1000000 in
theorem E_S_moves_0 (N : Nat) (n : Nat) (a1 : Int32) (a2 : Int32) (h : MH) : seg (C_S_moves N) 3 0 rI T_S_moves [0] (fun q lv st h => match Nat.ble 1 q with
    | true => D_S_moves N n q lv st h
    | false => none) 400 true 0 [(0, .inr (.inr (0, 11, 1))), (1, .inl a1), (2, .inl a2)] [] h = f_S_moves N a1 a2 h := (rfl)
def T_S_isYear : List (List (Option RW)) := [
  [some (.iload_n 0, 1, [0], 0, 0), some (.bipush 20, 2, [], 20, 0), none, some (.invokestatic 186, 3, [2, 151, 2, 0], 0, 0), none, none, some (.ireturn, 1, [], 0, 0)]]
def f_S_isYear (N : Nat) (a0 : Int32) (h : MH) : Option (Int32 × MH) :=
  (f_S_isOneOf N a0 20 h).bind (fun x1 =>
  match narOK 1 x1.1 with
  | true => some (x1.1, x1.2)
  | false => none)
def C_S_isYear (N : Nat) : MC := (KDL, false, (fun _ => 0), jsB, (fun j => match Nat.beq j 151 with
    | true => w_S_isOneOf (f_S_isOneOf N)
    | false => fun _ _ => none), (fun _ _ _ => none), (fun _ _ _ => none), (fun _ _ _ => none))
def D_S_isYear (N : Nat) (n pc : Nat) (lv : ML) (st : List MV) (h : MH) : Option (Int32 × MH) :=
  match Nat.beq pc 0 with
  | true => (match lk lv 0, st with
    | some (.inl a0), [] => f_S_isYear N a0 h
    | _, _ => none)
  | false => none
set_option maxRecDepth 1000000 in
theorem E_S_isYear_0 (N : Nat) (n : Nat) (a0 : Int32) (h : MH) : seg (C_S_isYear N) 1 1 rI T_S_isYear [0] (fun q lv st h => match Nat.ble 1 q with
    | true => D_S_isYear N n q lv st h
    | false => none) 400 true 0 [(0, .inl a0)] [] h = f_S_isYear N a0 h := (rfl)
def T_S_isDay : List (List (Option RW)) := [
  [some (.iload_n 0, 1, [0], 0, 0), some (.iconst 0, 1, [], 0, 0), some (.sipush 9999, 3, [], 9999, 0), none, none, some (.invokestatic 207, 3, [2, 150, 3, 0], 0, 0), none, none, some (.ireturn, 1, [], 0, 0)]]
def f_S_isDay (N : Nat) (a0 : Int32) (h : MH) : Option (Int32 × MH) :=
  (f_S_isWithin N a0 0 9999 h).bind (fun x1 =>
  match narOK 1 x1.1 with
  | true => some (x1.1, x1.2)
  | false => none)
def C_S_isDay (N : Nat) : MC := (KDL, false, (fun _ => 0), jsB, (fun j => match Nat.beq j 150 with
    | true => w_S_isWithin (f_S_isWithin N)
    | false => fun _ _ => none), (fun _ _ _ => none), (fun _ _ _ => none), (fun _ _ _ => none))
def D_S_isDay (N : Nat) (n pc : Nat) (lv : ML) (st : List MV) (h : MH) : Option (Int32 × MH) :=
  match Nat.beq pc 0 with
  | true => (match lk lv 0, st with
    | some (.inl a0), [] => f_S_isDay N a0 h
    | _, _ => none)
  | false => none
set_option maxRecDepth 1000000 in
theorem E_S_isDay_0 (N : Nat) (n : Nat) (a0 : Int32) (h : MH) : seg (C_S_isDay N) 1 1 rI T_S_isDay [0] (fun q lv st h => match Nat.ble 1 q with
    | true => D_S_isDay N n q lv st h
    | false => none) 400 true 0 [(0, .inl a0)] [] h = f_S_isDay N a0 h := (rfl)
def T_S_row : List (List (Option RW)) := [
  [some (.aload_n 0, 1, [0], 0, 0), some (.iload_n 1, 1, [1], 0, 0), some (.invokevirtual 198, 3, [0, 157, 2, 0], 0, 0), none, none, some (.ifCond .eq 43, 3, [48], 0, 0), none, none, some (.iload_n 2, 1, [2], 0, 0), some (.invokestatic 204, 3, [2, 153, 1, 0], 0, 0), none, none, some (.ifCond .eq 36, 3, [48], 0, 0), none, none, some (.iload_n 3, 1, [3], 0, 0), some (.sipush (-2000), 3, [], (-2000), 0), none, none, some (.sipush 2000, 3, [], 2000, 0), none, none, some (.invokestatic 207, 3, [2, 150, 3, 0], 0, 0), none, none, some (.ifCond .eq 23, 3, [48], 0, 0), none, none, some (.iload 4, 2, [4], 0, 0), none, some (.iconst 0, 1, [], 0, 0), some (.sipush 200, 3, [], 200, 0)],
  [none, none, some (.invokestatic 207, 3, [2, 150, 3, 0], 0, 0), none, none, some (.ifCond .eq 11, 3, [48], 0, 0), none, none, some (.iload 5, 2, [5], 0, 0), none, some (.invokestatic 211, 3, [2, 155, 1, 0], 0, 0), none, none, some (.ifCond .ne 9, 3, [54], 0, 0), none, none, some (.aload_n 0, 1, [0], 0, 0), some (.iconst 1, 1, [], 1, 0), some (.invokevirtual 109, 3, [0, 147, 2, 0], 0, 0), none, none, some (.ireturn, 1, [], 0, 0), some (.aload_n 0, 1, [0], 0, 0), some (.getfield 25, 3, [11, 2, 2, 0, 3, 15], 0, 0), none, none, some (.getfield 214, 3, [3, 5, 0], 0, 0), none, none, some (.sipush 160, 3, [], 160, 0), none, none],
  [some (.if_icmp .lt 9, 3, [73], 0, 0), none, none, some (.aload_n 0, 1, [0], 0, 0), some (.iconst 4, 1, [], 4, 0), some (.invokevirtual 109, 3, [0, 147, 2, 0], 0, 0), none, none, some (.ireturn, 1, [], 0, 0), some (.iload 5, 2, [5], 0, 0), none, some (.aload_n 0, 1, [0], 0, 0), some (.getfield 25, 3, [11, 2, 2, 0, 3, 15], 0, 0), none, none, some (.getfield 217, 3, [3, 10, 0], 0, 0), none, none, some (.if_icmp .ge 9, 3, [91], 0, 0), none, none, some (.aload_n 0, 1, [0], 0, 0), some (.iconst 5, 1, [], 5, 0), some (.invokevirtual 109, 3, [0, 147, 2, 0], 0, 0), none, none, some (.ireturn, 1, [], 0, 0), some (.aload_n 0, 1, [0], 0, 0), some (.getfield 25, 3, [11, 2, 2, 0, 3, 15], 0, 0), none, none, some (.iload_n 1, 1, [1], 0, 0)],
  [some (.iload_n 2, 1, [2], 0, 0), some (.iload_n 3, 1, [3], 0, 0), some (.iload 4, 2, [4], 0, 0), none, some (.iload 5, 2, [5], 0, 0), none, some (.invokevirtual 220, 3, [1, 19, 6, 3], 0, 0), none, none, some (.aload_n 0, 1, [0], 0, 0), some (.invokevirtual 116, 3, [0, 145, 1, 0], 0, 0), none, none, some (.ireturn, 1, [], 0, 0)]]
def f_S_row (N : Nat) (a1 : Int32) (a2 : Int32) (a3 : Int32) (a4 : Int32) (a5 : Int32) (h : MH) : Option (Int32 × MH) :=
  (f_S_isMark N a1 h).bind (fun x1 =>
  if x1.1 = 0 then
  ((f_S_deny N 1 x1.2).bind (fun x2 =>
  match narOK 1 x2.1 with
  | true => some (x2.1, x2.2)
  | false => none))
  else
  ((f_S_isYear N a2 x1.2).bind (fun x3 =>
  if x3.1 = 0 then
  ((f_S_deny N 1 x3.2).bind (fun x4 =>
  match narOK 1 x4.1 with
  | true => some (x4.1, x4.2)
  | false => none))
  else
  ((f_S_isWithin N a3 ((-2000)) 2000 x3.2).bind (fun x5 =>
  if x5.1 = 0 then
  ((f_S_deny N 1 x5.2).bind (fun x6 =>
  match narOK 1 x6.1 with
  | true => some (x6.1, x6.2)
  | false => none))
  else
  ((f_S_isWithin N a4 0 200 x5.2).bind (fun x7 =>
  if x7.1 = 0 then
  ((f_S_deny N 1 x7.2).bind (fun x8 =>
  match narOK 1 x8.1 with
  | true => some (x8.1, x8.2)
  | false => none))
  else
  ((f_S_isDay N a5 x7.2).bind (fun x9 =>
  if x9.1 = 0 then
  ((f_S_deny N 1 x9.2).bind (fun x10 =>
  match narOK 1 x10.1 with
  | true => some (x10.1, x10.2)
  | false => none))
  else
  (if (gI x9.2 16 5) < 160 then
  (if (gI x9.2 16 10) ≤ a5 then
  ((f_Ledger_addRow N a1 a2 a3 a4 a5 x9.2).bind (fun x11 =>
  (f_S_allow N x11).bind (fun x12 =>
  match narOK 1 x12.1 with
  | true => some (x12.1, x12.2)
  | false => none)))
  else
  ((f_S_deny N 5 x9.2).bind (fun x13 =>
  match narOK 1 x13.1 with
  | true => some (x13.1, x13.2)
  | false => none)))
  else
  ((f_S_deny N 4 x9.2).bind (fun x14 =>
  match narOK 1 x14.1 with
  | true => some (x14.1, x14.2)
  | false => none))))))))))))
def C_S_row (N : Nat) : MC := (KDL, false, (fun _ => 0), jsB, (fun j => match Nat.beq j 145 with
    | true => w_S_allow (f_S_allow N)
    | false => match Nat.beq j 147 with
    | true => w_S_deny (f_S_deny N)
    | false => match Nat.beq j 150 with
    | true => w_S_isWithin (f_S_isWithin N)
    | false => match Nat.beq j 153 with
    | true => w_S_isYear (f_S_isYear N)
    | false => match Nat.beq j 155 with
    | true => w_S_isDay (f_S_isDay N)
    | false => match Nat.beq j 157 with
    | true => w_S_isMark (f_S_isMark N)
    | false => fun _ _ => none), (fun _ _ _ => none), (fun _ _ _ => none), (fun j => match Nat.beq j 19 with
    | true => w_Ledger_addRow (f_Ledger_addRow N)
    | false => fun _ _ => none))
def D_S_row (N : Nat) (n pc : Nat) (lv : ML) (st : List MV) (h : MH) : Option (Int32 × MH) :=
  match Nat.beq pc 0 with
  | true => (match lk lv 0, lk lv 1, lk lv 2, lk lv 3, lk lv 4, lk lv 5, st with
    | some (.inr (.inr (0, 11, 1))), some (.inl a1), some (.inl a2), some (.inl a3), some (.inl a4), some (.inl a5), [] => f_S_row N a1 a2 a3 a4 a5 h
    | _, _, _, _, _, _, _ => none)
  | false => none
set_option maxRecDepth 1000000 in
theorem E_S_row_0 (N : Nat) (n : Nat) (a1 : Int32) (a2 : Int32) (a3 : Int32) (a4 : Int32) (a5 : Int32) (h : MH) : seg (C_S_row N) 6 1 rI T_S_row [0] (fun q lv st h => match Nat.ble 1 q with
    | true => D_S_row N n q lv st h
    | false => none) 400 true 0 [(0, .inr (.inr (0, 11, 1))), (1, .inl a1), (2, .inl a2), (3, .inl a3), (4, .inl a4), (5, .inl a5)] [] h = f_S_row N a1 a2 a3 a4 a5 h := (rfl)
def T_S_offset : List (List (Option RW)) := [
  [some (.aload_n 0, 1, [0], 0, 0), some (.iload_n 1, 1, [1], 0, 0), some (.invokevirtual 198, 3, [0, 157, 2, 0], 0, 0), none, none, some (.ifCond .eq 23, 3, [28], 0, 0), none, none, some (.iload_n 2, 1, [2], 0, 0), some (.invokestatic 204, 3, [2, 153, 1, 0], 0, 0), none, none, some (.ifCond .eq 16, 3, [28], 0, 0), none, none, some (.iload_n 3, 1, [3], 0, 0), some (.sipush (-2000), 3, [], (-2000), 0), none, none, some (.sipush 2000, 3, [], 2000, 0), none, none, some (.invokestatic 207, 3, [2, 150, 3, 0], 0, 0), none, none, some (.ifCond .ne 9, 3, [34], 0, 0), none, none, some (.aload_n 0, 1, [0], 0, 0), some (.iconst 1, 1, [], 1, 0), some (.invokevirtual 109, 3, [0, 147, 2, 0], 0, 0), none],
  [none, some (.ireturn, 1, [], 0, 0), some (.aload_n 0, 1, [0], 0, 0), some (.getfield 25, 3, [11, 2, 2, 0, 3, 15], 0, 0), none, none, some (.getfield 224, 3, [3, 9, 0], 0, 0), none, none, some (.bipush 20, 2, [], 20, 0), none, some (.if_icmp .lt 9, 3, [52], 0, 0), none, none, some (.aload_n 0, 1, [0], 0, 0), some (.iconst 4, 1, [], 4, 0), some (.invokevirtual 109, 3, [0, 147, 2, 0], 0, 0), none, none, some (.ireturn, 1, [], 0, 0), some (.aload_n 0, 1, [0], 0, 0), some (.getfield 25, 3, [11, 2, 2, 0, 3, 15], 0, 0), none, none, some (.iload_n 1, 1, [1], 0, 0), some (.iload_n 2, 1, [2], 0, 0), some (.iload_n 3, 1, [3], 0, 0), some (.invokevirtual 227, 3, [1, 20, 4, 3], 0, 0), none, none, some (.aload_n 0, 1, [0], 0, 0), some (.invokevirtual 116, 3, [0, 145, 1, 0], 0, 0)],
  [none, none, some (.ireturn, 1, [], 0, 0)]]
def f_S_offset (N : Nat) (a1 : Int32) (a2 : Int32) (a3 : Int32) (h : MH) : Option (Int32 × MH) :=
  (f_S_isMark N a1 h).bind (fun x1 =>
  if x1.1 = 0 then
  ((f_S_deny N 1 x1.2).bind (fun x2 =>
  match narOK 1 x2.1 with
  | true => some (x2.1, x2.2)
  | false => none))
  else
  ((f_S_isYear N a2 x1.2).bind (fun x3 =>
  if x3.1 = 0 then
  ((f_S_deny N 1 x3.2).bind (fun x4 =>
  match narOK 1 x4.1 with
  | true => some (x4.1, x4.2)
  | false => none))
  else
  ((f_S_isWithin N a3 ((-2000)) 2000 x3.2).bind (fun x5 =>
  if x5.1 = 0 then
  ((f_S_deny N 1 x5.2).bind (fun x6 =>
  match narOK 1 x6.1 with
  | true => some (x6.1, x6.2)
  | false => none))
  else
  (if (gI x5.2 16 9) < 20 then
  ((f_Ledger_addOffset N a1 a2 a3 x5.2).bind (fun x7 =>
  (f_S_allow N x7).bind (fun x8 =>
  match narOK 1 x8.1 with
  | true => some (x8.1, x8.2)
  | false => none)))
  else
  ((f_S_deny N 4 x5.2).bind (fun x9 =>
  match narOK 1 x9.1 with
  | true => some (x9.1, x9.2)
  | false => none))))))))
def C_S_offset (N : Nat) : MC := (KDL, false, (fun _ => 0), jsB, (fun j => match Nat.beq j 145 with
    | true => w_S_allow (f_S_allow N)
    | false => match Nat.beq j 147 with
    | true => w_S_deny (f_S_deny N)
    | false => match Nat.beq j 150 with
    | true => w_S_isWithin (f_S_isWithin N)
    | false => match Nat.beq j 153 with
    | true => w_S_isYear (f_S_isYear N)
    | false => match Nat.beq j 157 with
    | true => w_S_isMark (f_S_isMark N)
    | false => fun _ _ => none), (fun _ _ _ => none), (fun _ _ _ => none), (fun j => match Nat.beq j 20 with
    | true => w_Ledger_addOffset (f_Ledger_addOffset N)
    | false => fun _ _ => none))
def D_S_offset (N : Nat) (n pc : Nat) (lv : ML) (st : List MV) (h : MH) : Option (Int32 × MH) :=
  match Nat.beq pc 0 with
  | true => (match lk lv 0, lk lv 1, lk lv 2, lk lv 3, st with
    | some (.inr (.inr (0, 11, 1))), some (.inl a1), some (.inl a2), some (.inl a3), [] => f_S_offset N a1 a2 a3 h
    | _, _, _, _, _ => none)
  | false => none
set_option maxRecDepth 1000000 in
theorem E_S_offset_0 (N : Nat) (n : Nat) (a1 : Int32) (a2 : Int32) (a3 : Int32) (h : MH) : seg (C_S_offset N) 4 1 rI T_S_offset [0] (fun q lv st h => match Nat.ble 1 q with
    | true => D_S_offset N n q lv st h
    | false => none) 400 true 0 [(0, .inr (.inr (0, 11, 1))), (1, .inl a1), (2, .inl a2), (3, .inl a3)] [] h = f_S_offset N a1 a2 a3 h := (rfl)
def T_S_asof : List (List (Option RW)) := [
  [some (.iload_n 1, 1, [1], 0, 0), some (.invokestatic 211, 3, [2, 155, 1, 0], 0, 0), none, none, some (.ifCond .ne 9, 3, [13], 0, 0), none, none, some (.aload_n 0, 1, [0], 0, 0), some (.iconst 1, 1, [], 1, 0), some (.invokevirtual 109, 3, [0, 147, 2, 0], 0, 0), none, none, some (.ireturn, 1, [], 0, 0), some (.aload_n 0, 1, [0], 0, 0), some (.getfield 25, 3, [11, 2, 2, 0, 3, 15], 0, 0), none, none, some (.iload_n 1, 1, [1], 0, 0), some (.putfield 231, 3, [3, 11, 0], 0, 0), none, none, some (.aload_n 0, 1, [0], 0, 0), some (.invokevirtual 116, 3, [0, 145, 1, 0], 0, 0), none, none, some (.ireturn, 1, [], 0, 0)]]
def f_S_asof (N : Nat) (a1 : Int32) (h : MH) : Option (Int32 × MH) :=
  (f_S_isDay N a1 h).bind (fun x1 =>
  if x1.1 = 0 then
  ((f_S_deny N 1 x1.2).bind (fun x2 =>
  match narOK 1 x2.1 with
  | true => some (x2.1, x2.2)
  | false => none))
  else
  (let h3 : MH := sI x1.2 16 11 a1
  (f_S_allow N h3).bind (fun x4 =>
  match narOK 1 x4.1 with
  | true => some (x4.1, x4.2)
  | false => none)))
def C_S_asof (N : Nat) : MC := (KDL, false, (fun _ => 0), jsB, (fun j => match Nat.beq j 145 with
    | true => w_S_allow (f_S_allow N)
    | false => match Nat.beq j 147 with
    | true => w_S_deny (f_S_deny N)
    | false => match Nat.beq j 155 with
    | true => w_S_isDay (f_S_isDay N)
    | false => fun _ _ => none), (fun _ _ _ => none), (fun _ _ _ => none), (fun _ _ _ => none))
def D_S_asof (N : Nat) (n pc : Nat) (lv : ML) (st : List MV) (h : MH) : Option (Int32 × MH) :=
  match Nat.beq pc 0 with
  | true => (match lk lv 0, lk lv 1, st with
    | some (.inr (.inr (0, 11, 1))), some (.inl a1), [] => f_S_asof N a1 h
    | _, _, _ => none)
  | false => none
set_option maxRecDepth 1000000 in
theorem E_S_asof_0 (N : Nat) (n : Nat) (a1 : Int32) (h : MH) : seg (C_S_asof N) 2 1 rI T_S_asof [0] (fun q lv st h => match Nat.ble 1 q with
    | true => D_S_asof N n q lv st h
    | false => none) 400 true 0 [(0, .inr (.inr (0, 11, 1))), (1, .inl a1)] [] h = f_S_asof N a1 h := (rfl)
def T_S_value : List (List (Option RW)) := [
  [some (.aload_n 0, 1, [0], 0, 0), some (.iload_n 1, 1, [1], 0, 0), some (.invokevirtual 198, 3, [0, 157, 2, 0], 0, 0), none, none, some (.ifCond .eq 18, 3, [23], 0, 0), none, none, some (.iload_n 2, 1, [2], 0, 0), some (.invokestatic 204, 3, [2, 153, 1, 0], 0, 0), none, none, some (.ifCond .eq 11, 3, [23], 0, 0), none, none, some (.iload_n 3, 1, [3], 0, 0), some (.iconst 2, 1, [], 2, 0), some (.invokestatic 186, 3, [2, 151, 2, 0], 0, 0), none, none, some (.ifCond .ne 9, 3, [29], 0, 0), none, none, some (.aload_n 0, 1, [0], 0, 0), some (.iconst 1, 1, [], 1, 0), some (.invokevirtual 128, 3, [0, 146, 2, 0], 0, 0), none, none, some (.ireturn, 1, [], 0, 0), some (.aload_n 0, 1, [0], 0, 0), some (.getfield 25, 3, [11, 2, 2, 0, 3, 15], 0, 0), none],
  [none, some (.iload_n 1, 1, [1], 0, 0), some (.invokevirtual 234, 3, [1, 22, 2, 3], 0, 0), none, none, some (.aload_n 0, 1, [0], 0, 0), some (.getfield 25, 3, [11, 2, 2, 0, 3, 15], 0, 0), none, none, some (.getfield 237, 3, [3, 12, 2, 4, 20, 9], 0, 0), none, none, some (.iload_n 2, 1, [2], 0, 0), some (.baload, 1, [], 0, 0), some (.ifCond .ne 10, 3, [56], 0, 0), none, none, some (.aload_n 0, 1, [0], 0, 0), some (.bipush 6, 2, [], 6, 0), none, some (.invokevirtual 128, 3, [0, 146, 2, 0], 0, 0), none, none, some (.ireturn, 1, [], 0, 0), some (.aload_n 0, 1, [0], 0, 0), some (.iload_n 3, 1, [3], 0, 0), some (.ifCond .ne 15, 3, [73], 0, 0), none, none, some (.aload_n 0, 1, [0], 0, 0), some (.getfield 25, 3, [11, 2, 2, 0, 3, 15], 0, 0), none],
  [none, some (.getfield 241, 3, [3, 13, 2, 1, 20, 10], 0, 0), none, none, some (.iload_n 2, 1, [2], 0, 0), some (.iaload, 1, [], 0, 0), some (.goto 12, 3, [82], 0, 0), none, none, some (.aload_n 0, 1, [0], 0, 0), some (.getfield 25, 3, [11, 2, 2, 0, 3, 15], 0, 0), none, none, some (.getfield 245, 3, [3, 14, 2, 1, 20, 11], 0, 0), none, none, some (.iload_n 2, 1, [2], 0, 0), some (.iaload, 1, [], 0, 0), some (.invokevirtual 183, 3, [0, 144, 2, 0], 0, 0), none, none, some (.ireturn, 1, [], 0, 0)]]
def f_S_value (N : Nat) (a1 : Int32) (a2 : Int32) (a3 : Int32) (h : MH) : Option (Int32 × MH) :=
  (f_S_isMark N a1 h).bind (fun x1 =>
  if x1.1 = 0 then
  ((f_S_refuse N 1 x1.2).bind (fun x2 =>
  some (x2.1, x2.2)))
  else
  ((f_S_isYear N a2 x1.2).bind (fun x3 =>
  if x3.1 = 0 then
  ((f_S_refuse N 1 x3.2).bind (fun x4 =>
  some (x4.1, x4.2)))
  else
  ((f_S_isOneOf N a3 2 x3.2).bind (fun x5 =>
  if x5.1 = 0 then
  ((f_S_refuse N 1 x5.2).bind (fun x6 =>
  some (x6.1, x6.2)))
  else
  ((f_Ledger_gather N a1 x5.2).bind (fun x7 =>
  if inB a2 20 = true then
  (if (gI x7 25 (iN a2)) = 0 then
  ((f_S_refuse N 6 x7).bind (fun x8 =>
  some (x8.1, x8.2)))
  else
  (if a3 = 0 then
  (if inB a2 20 = true then
  ((f_S_answer N (gI x7 26 (iN a2)) x7).bind (fun x9 =>
  some (x9.1, x9.2)))
  else none)
  else
  (if inB a2 20 = true then
  ((f_S_answer N (gI x7 27 (iN a2)) x7).bind (fun x10 =>
  some (x10.1, x10.2)))
  else none)))
  else none)))))))
def C_S_value (N : Nat) : MC := (KDL, false, (fun _ => 0), jsB, (fun j => match Nat.beq j 144 with
    | true => w_S_answer (f_S_answer N)
    | false => match Nat.beq j 146 with
    | true => w_S_refuse (f_S_refuse N)
    | false => match Nat.beq j 151 with
    | true => w_S_isOneOf (f_S_isOneOf N)
    | false => match Nat.beq j 153 with
    | true => w_S_isYear (f_S_isYear N)
    | false => match Nat.beq j 157 with
    | true => w_S_isMark (f_S_isMark N)
    | false => fun _ _ => none), (fun _ _ _ => none), (fun _ _ _ => none), (fun j => match Nat.beq j 22 with
    | true => w_Ledger_gather (f_Ledger_gather N)
    | false => fun _ _ => none))
def D_S_value (N : Nat) (n pc : Nat) (lv : ML) (st : List MV) (h : MH) : Option (Int32 × MH) :=
  match Nat.beq pc 0 with
  | true => (match lk lv 0, lk lv 1, lk lv 2, lk lv 3, st with
    | some (.inr (.inr (0, 11, 1))), some (.inl a1), some (.inl a2), some (.inl a3), [] => f_S_value N a1 a2 a3 h
    | _, _, _, _, _ => none)
  | false => none
set_option maxRecDepth 1000000 in
theorem E_S_value_0 (N : Nat) (n : Nat) (a1 : Int32) (a2 : Int32) (a3 : Int32) (h : MH) : seg (C_S_value N) 4 0 rI T_S_value [0] (fun q lv st h => match Nat.ble 1 q with
    | true => D_S_value N n q lv st h
    | false => none) 400 true 0 [(0, .inr (.inr (0, 11, 1))), (1, .inl a1), (2, .inl a2), (3, .inl a3)] [] h = f_S_value N a1 a2 a3 h := (rfl)
def T_S_commonDivisor : List (List (Option RW)) := [
  [some (.lload_n 0, 1, [0], 0, 0), some (.lstore 4, 2, [4], 0, 0), none, some (.lload_n 2, 1, [2], 0, 0), some (.lstore 6, 2, [6], 0, 0), none, some (.iconst 0, 1, [], 0, 0), some (.istore 8, 2, [8], 0, 0), none, some (.iload 8, 2, [8], 0, 0), none, some (.sipush 200, 3, [], 200, 0), none, none, some (.if_icmp .ge 31, 3, [45], 0, 0), none, none, some (.lload 6, 2, [6], 0, 0), none, some (.lconst 0, 1, [], 0, 0), some (.lcmp, 1, [], 0, 0), some (.ifCond .eq 24, 3, [45], 0, 0), none, none, some (.lload 4, 2, [4], 0, 0), none, some (.lload 6, 2, [6], 0, 0), none, some (.lrem, 1, [], 0, 0), some (.lstore 9, 2, [9], 0, 0), none, some (.lload 6, 2, [6], 0, 0)],
  [none, some (.lstore 4, 2, [4], 0, 0), none, some (.lload 9, 2, [9], 0, 0), none, some (.lstore 6, 2, [6], 0, 0), none, some (.iinc 8 1, 3, [8], 1, 0), none, none, some (.goto (-33), 3, [9], 0, 0), none, none, some (.lload 4, 2, [4], 0, 0), none, some (.lreturn, 1, [], 0, 0)]]
def F_S_commonDivisor_9 (N : Nat) (bk : (Int64 → Int64 → Int32 → MH → Option (Int64 × MH))) (a4 : Int64) (a6 : Int64) (a8 : Int32) (h : MH) : Option (Int64 × MH) :=
  if 200 ≤ a8 then
  (some (a4, h))
  else
  (if (lg_cmp a6 0) = 0 then
  (some (a4, h))
  else
  (if a6 = 0 then none else
  let v1 : Int64 := a4 - a4 / a6 * a6
  let v2 : Int32 := a8 + 1
  bk a6 v1 v2 h))
def F_S_commonDivisor_0 (N : Nat) (bk : (Int64 → Int64 → Int32 → MH → Option (Int64 × MH))) (a0 : Int64) (a2 : Int64) (h : MH) : Option (Int64 × MH) :=
  F_S_commonDivisor_9 N bk a0 a2 0 h
def L_S_commonDivisor (N : Nat) : Nat → (Int64 → Int64 → Int32 → MH → Option (Int64 × MH))
  | 0 => fun _ _ _ _ => none
  | n + 1 => F_S_commonDivisor_9 N (L_S_commonDivisor N n)
def f_S_commonDivisor (N : Nat) (a0 : Int64) (a2 : Int64) (h : MH) : Option (Int64 × MH) := F_S_commonDivisor_0 N (L_S_commonDivisor N N) a0 a2 h
def C_S_commonDivisor (N : Nat) : MC := (KDL, false, (fun _ => 0), jsB, (fun _ _ _ => none), (fun _ _ _ => none), (fun _ _ _ => none), (fun _ _ _ => none))
def D_S_commonDivisor (N : Nat) (n pc : Nat) (lv : ML) (st : List MV) (h : MH) : Option (Int64 × MH) :=
  match Nat.beq pc 0 with
  | true => (match lk lv 0, lk lv 2, st with
    | some (.inr (.inl a0)), some (.inr (.inl a2)), [] => F_S_commonDivisor_0 N (L_S_commonDivisor N n) a0 a2 h
    | _, _, _ => none)
  | false => match Nat.beq pc 9 with
  | true => (match lk lv 4, lk lv 6, lk lv 8, st with
    | some (.inr (.inl a4)), some (.inr (.inl a6)), some (.inl a8), [] => F_S_commonDivisor_9 N (L_S_commonDivisor N n) a4 a6 a8 h
    | _, _, _, _ => none)
  | false => none
def B_S_commonDivisor (N : Nat) (n pc : Nat) (lv : ML) (st : List MV) (h : MH) : Option (Int64 × MH) :=
  match Nat.beq pc 9 with
  | true => (match lk lv 4, lk lv 6, lk lv 8, st with
    | some (.inr (.inl a4)), some (.inr (.inl a6)), some (.inl a8), [] => ((L_S_commonDivisor N n)) a4 a6 a8 h
    | _, _, _, _ => none)
  | false => none
set_option maxRecDepth 1000000 in
theorem E_S_commonDivisor_0 (N : Nat) (n : Nat) (a0 : Int64) (a2 : Int64) (h : MH) : seg (C_S_commonDivisor N) 11 0 rJ T_S_commonDivisor [0, 9] (fun q lv st h => match Nat.ble 1 q with
    | true => D_S_commonDivisor N n q lv st h
    | false => B_S_commonDivisor N n q lv st h) 400 true 0 [(0, .inr (.inl a0)), (2, .inr (.inl a2))] [] h = F_S_commonDivisor_0 N (L_S_commonDivisor N n) a0 a2 h := (rfl)
set_option maxRecDepth 1000000 in
theorem E_S_commonDivisor_9 (N : Nat) (n : Nat) (a4 : Int64) (a6 : Int64) (a8 : Int32) (h : MH) : seg (C_S_commonDivisor N) 11 0 rJ T_S_commonDivisor [0, 9] (fun q lv st h => match Nat.ble 10 q with
    | true => D_S_commonDivisor N n q lv st h
    | false => B_S_commonDivisor N n q lv st h) 400 true 9 [(4, .inr (.inl a4)), (6, .inr (.inl a6)), (8, .inl a8)] [] h = F_S_commonDivisor_9 N (L_S_commonDivisor N n) a4 a6 a8 h := (rfl)
def T_Long_signum : List (List (Option RW)) := [
  [some (.lload_n 0, 1, [0], 0, 0), some (.bipush 63, 2, [], 63, 0), none, some (.lshr, 1, [], 0, 0), some (.lload_n 0, 1, [0], 0, 0), some (.lneg, 1, [], 0, 0), some (.bipush 63, 2, [], 63, 0), none, some (.lushr, 1, [], 0, 0), some (.lor, 1, [], 0, 0), some (.l2i, 1, [], 0, 0), some (.ireturn, 1, [], 0, 0)]]
def f_Long_signum (N : Nat) (a0 : Int64) (h : MH) : Option (Int32 × MH) :=
  some (Int64.toInt32 ((a0 >>> (Int32.toInt64 63 &&& 63)) ||| ((Int64.toUInt64 (-a0) >>> ((Int32.toInt64 63).toUInt64 &&& Int64.toUInt64 63)).toInt64)), h)
def C_Long_signum (N : Nat) : MC := (KDL, false, (fun _ => 0), jsB, (fun _ _ _ => none), (fun _ _ _ => none), (fun _ _ _ => none), (fun _ _ _ => none))
def D_Long_signum (N : Nat) (n pc : Nat) (lv : ML) (st : List MV) (h : MH) : Option (Int32 × MH) :=
  match Nat.beq pc 0 with
  | true => (match lk lv 0, st with
    | some (.inr (.inl a0)), [] => f_Long_signum N a0 h
    | _, _ => none)
  | false => none
set_option maxRecDepth 1000000 in
theorem E_Long_signum_0 (N : Nat) (n : Nat) (a0 : Int64) (h : MH) : seg (C_Long_signum N) 2 0 rI T_Long_signum [0] (fun q lv st h => match Nat.ble 1 q with
    | true => D_Long_signum N n q lv st h
    | false => none) 400 true 0 [(0, .inr (.inl a0))] [] h = f_Long_signum N a0 h := (rfl)
def T_Math_abs_J : List (List (Option RW)) := [
  [some (.lload_n 0, 1, [0], 0, 0), some (.lconst 0, 1, [], 0, 0), some (.lcmp, 1, [], 0, 0), some (.ifCond .ge 8, 3, [11], 0, 0), none, none, some (.lload_n 0, 1, [0], 0, 0), some (.lneg, 1, [], 0, 0), some (.goto 4, 3, [12], 0, 0), none, none, some (.lload_n 0, 1, [0], 0, 0), some (.lreturn, 1, [], 0, 0)]]
def f_Math_abs_J (N : Nat) (a0 : Int64) (h : MH) : Option (Int64 × MH) :=
  if 0 ≤ (lg_cmp a0 0) then
  (some (a0, h))
  else
  (some (-a0, h))
def C_Math_abs_J (N : Nat) : MC := (KDL, false, (fun _ => 0), jsB, (fun _ _ _ => none), (fun _ _ _ => none), (fun _ _ _ => none), (fun _ _ _ => none))
def D_Math_abs_J (N : Nat) (n pc : Nat) (lv : ML) (st : List MV) (h : MH) : Option (Int64 × MH) :=
  match Nat.beq pc 0 with
  | true => (match lk lv 0, st with
    | some (.inr (.inl a0)), [] => f_Math_abs_J N a0 h
    | _, _ => none)
  | false => none
set_option maxRecDepth 1000000 in
theorem E_Math_abs_J_0 (N : Nat) (n : Nat) (a0 : Int64) (h : MH) : seg (C_Math_abs_J N) 2 0 rJ T_Math_abs_J [0] (fun q lv st h => match Nat.ble 1 q with
    | true => D_Math_abs_J N n q lv st h
    | false => none) 400 true 0 [(0, .inr (.inl a0))] [] h = f_Math_abs_J N a0 h := (rfl)
def T_S_tell : List (List (Option RW)) := [
  [some (.lload_n 1, 1, [1], 0, 0), some (.invokestatic 373, 3, [2, 259, 1, 1], 0, 0), none, none, some (.lload_n 3, 1, [3], 0, 0), some (.invokestatic 379, 3, [2, 149, 2, 1], 0, 0), none, none, some (.lstore 5, 2, [5], 0, 0), none, some (.lload 5, 2, [5], 0, 0), none, some (.lconst 0, 1, [], 0, 0), some (.lcmp, 1, [], 0, 0), some (.ifCond .le 19, 3, [33], 0, 0), none, none, some (.aload_n 0, 1, [0], 0, 0), some (.lload_n 1, 1, [1], 0, 0), some (.lload 5, 2, [5], 0, 0), none, some (.ldiv, 1, [], 0, 0), some (.putfield 71, 3, [11, 9, 1], 0, 0), none, none, some (.aload_n 0, 1, [0], 0, 0), some (.lload_n 3, 1, [3], 0, 0), some (.lload 5, 2, [5], 0, 0), none, some (.ldiv, 1, [], 0, 0), some (.putfield 75, 3, [11, 10, 1], 0, 0), none],
  [none, some (.aload_n 0, 1, [0], 0, 0), some (.aload_n 0, 1, [0], 0, 0), some (.getfield 71, 3, [11, 9, 1], 0, 0), none, none, some (.invokestatic 383, 3, [2, 256, 1, 0], 0, 0), none, none, some (.invokevirtual 183, 3, [0, 144, 2, 0], 0, 0), none, none, some (.ireturn, 1, [], 0, 0)]]
def f_S_tell (N : Nat) (a1 : Int64) (a3 : Int64) (h : MH) : Option (Int32 × MH) :=
  (f_Math_abs_J N a1 h).bind (fun x1 =>
  (f_S_commonDivisor N x1.1 a3 x1.2).bind (fun x2 =>
  if (lg_cmp x2.1 0) ≤ 0 then
  ((f_Long_signum N (gJ x2.2 1 9) x2.2).bind (fun x3 =>
  (f_S_answer N x3.1 x3.2).bind (fun x4 =>
  some (x4.1, x4.2))))
  else
  (if x2.1 = 0 then none else
  let h5 : MH := sJ x2.2 1 9 (a1 / x2.1)
  if x2.1 = 0 then none else
  let h6 : MH := sJ h5 1 10 (a3 / x2.1)
  (f_Long_signum N (gJ h6 1 9) h6).bind (fun x7 =>
  (f_S_answer N x7.1 x7.2).bind (fun x8 =>
  some (x8.1, x8.2))))))
def C_S_tell (N : Nat) : MC := (KDL, false, (fun _ => 0), jsB, (fun j => match Nat.beq j 144 with
    | true => w_S_answer (f_S_answer N)
    | false => match Nat.beq j 256 with
    | true => w_Long_signum (f_Long_signum N)
    | false => fun _ _ => none), (fun j => match Nat.beq j 149 with
    | true => w_S_commonDivisor (f_S_commonDivisor N)
    | false => match Nat.beq j 259 with
    | true => w_Math_abs_J (f_Math_abs_J N)
    | false => fun _ _ => none), (fun _ _ _ => none), (fun _ _ _ => none))
def D_S_tell (N : Nat) (n pc : Nat) (lv : ML) (st : List MV) (h : MH) : Option (Int32 × MH) :=
  match Nat.beq pc 0 with
  | true => (match lk lv 0, lk lv 1, lk lv 3, st with
    | some (.inr (.inr (0, 11, 1))), some (.inr (.inl a1)), some (.inr (.inl a3)), [] => f_S_tell N a1 a3 h
    | _, _, _, _ => none)
  | false => none
set_option maxRecDepth 1000000 in
theorem E_S_tell_0 (N : Nat) (n : Nat) (a1 : Int64) (a3 : Int64) (h : MH) : seg (C_S_tell N) 7 0 rI T_S_tell [0] (fun q lv st h => match Nat.ble 1 q with
    | true => D_S_tell N n q lv st h
    | false => none) 400 true 0 [(0, .inr (.inr (0, 11, 1))), (1, .inr (.inl a1)), (3, .inr (.inl a3))] [] h = f_S_tell N a1 a3 h := (rfl)
def T_S_line : List (List (Option RW)) := [
  [some (.aload_n 0, 1, [0], 0, 0), some (.iload_n 1, 1, [1], 0, 0), some (.invokevirtual 198, 3, [0, 157, 2, 0], 0, 0), none, none, some (.ifCond .eq 31, 3, [36], 0, 0), none, none, some (.iload_n 2, 1, [2], 0, 0), some (.invokestatic 204, 3, [2, 153, 1, 0], 0, 0), none, none, some (.ifCond .eq 24, 3, [36], 0, 0), none, none, some (.iload_n 3, 1, [3], 0, 0), some (.invokestatic 204, 3, [2, 153, 1, 0], 0, 0), none, none, some (.ifCond .eq 17, 3, [36], 0, 0), none, none, some (.iload_n 2, 1, [2], 0, 0), some (.iload_n 3, 1, [3], 0, 0), some (.if_icmp .gt 12, 3, [36], 0, 0), none, none, some (.iload 4, 2, [4], 0, 0), none, some (.iconst 2, 1, [], 2, 0), some (.invokestatic 186, 3, [2, 151, 2, 0], 0, 0), none],
  [none, some (.ifCond .ne 9, 3, [42], 0, 0), none, none, some (.aload_n 0, 1, [0], 0, 0), some (.iconst 1, 1, [], 1, 0), some (.invokevirtual 128, 3, [0, 146, 2, 0], 0, 0), none, none, some (.ireturn, 1, [], 0, 0), some (.aload_n 0, 1, [0], 0, 0), some (.getfield 25, 3, [11, 2, 2, 0, 3, 15], 0, 0), none, none, some (.iload_n 1, 1, [1], 0, 0), some (.invokevirtual 234, 3, [1, 22, 2, 3], 0, 0), none, none, some (.aload_n 0, 1, [0], 0, 0), some (.getfield 25, 3, [11, 2, 2, 0, 3, 15], 0, 0), none, none, some (.aload_n 0, 1, [0], 0, 0), some (.getfield 32, 3, [11, 3, 2, 0, 4, 27], 0, 0), none, none, some (.iload_n 2, 1, [2], 0, 0), some (.iload_n 3, 1, [3], 0, 0), some (.invokevirtual 248, 3, [1, 24, 4, 3], 0, 0), none, none, some (.aload_n 0, 1, [0], 0, 0)],
  [some (.getfield 32, 3, [11, 3, 2, 0, 4, 27], 0, 0), none, none, some (.invokevirtual 252, 3, [1, 32, 1, 0], 0, 0), none, none, some (.ifCond .ne 10, 3, [80], 0, 0), none, none, some (.aload_n 0, 1, [0], 0, 0), some (.bipush 6, 2, [], 6, 0), none, some (.invokevirtual 128, 3, [0, 146, 2, 0], 0, 0), none, none, some (.ireturn, 1, [], 0, 0), some (.iload 4, 2, [4], 0, 0), none, some (.ifCond .ne 22, 3, [104], 0, 0), none, none, some (.aload_n 0, 1, [0], 0, 0), some (.aload_n 0, 1, [0], 0, 0), some (.getfield 32, 3, [11, 3, 2, 0, 4, 27], 0, 0), none, none, some (.invokevirtual 255, 3, [1, 34, 1, 1], 0, 0), none, none, some (.aload_n 0, 1, [0], 0, 0), some (.getfield 32, 3, [11, 3, 2, 0, 4, 27], 0, 0), none],
  [none, some (.invokevirtual 259, 3, [1, 33, 1, 1], 0, 0), none, none, some (.invokevirtual 262, 3, [0, 148, 3, 0], 0, 0), none, none, some (.ireturn, 1, [], 0, 0), some (.aload_n 0, 1, [0], 0, 0), some (.aload_n 0, 1, [0], 0, 0), some (.getfield 32, 3, [11, 3, 2, 0, 4, 27], 0, 0), none, none, some (.invokevirtual 266, 3, [1, 35, 1, 1], 0, 0), none, none, some (.aload_n 0, 1, [0], 0, 0), some (.getfield 32, 3, [11, 3, 2, 0, 4, 27], 0, 0), none, none, some (.invokevirtual 269, 3, [1, 36, 1, 1], 0, 0), none, none, some (.invokevirtual 262, 3, [0, 148, 3, 0], 0, 0), none, none, some (.ireturn, 1, [], 0, 0)]]
def f_S_line (N : Nat) (a1 : Int32) (a2 : Int32) (a3 : Int32) (a4 : Int32) (h : MH) : Option (Int32 × MH) :=
  (f_S_isMark N a1 h).bind (fun x1 =>
  if x1.1 = 0 then
  ((f_S_refuse N 1 x1.2).bind (fun x2 =>
  some (x2.1, x2.2)))
  else
  ((f_S_isYear N a2 x1.2).bind (fun x3 =>
  if x3.1 = 0 then
  ((f_S_refuse N 1 x3.2).bind (fun x4 =>
  some (x4.1, x4.2)))
  else
  ((f_S_isYear N a3 x3.2).bind (fun x5 =>
  if x5.1 = 0 then
  ((f_S_refuse N 1 x5.2).bind (fun x6 =>
  some (x6.1, x6.2)))
  else
  (if a3 < a2 then
  ((f_S_refuse N 1 x5.2).bind (fun x7 =>
  some (x7.1, x7.2)))
  else
  ((f_S_isOneOf N a4 2 x5.2).bind (fun x8 =>
  if x8.1 = 0 then
  ((f_S_refuse N 1 x8.2).bind (fun x9 =>
  some (x9.1, x9.2)))
  else
  ((f_Ledger_gather N a1 x8.2).bind (fun x10 =>
  (f_Ledger_fit N a2 a3 x10).bind (fun x11 =>
  (f_Line_stands N x11).bind (fun x12 =>
  if x12.1 = 0 then
  ((f_S_refuse N 6 x12.2).bind (fun x13 =>
  some (x13.1, x13.2)))
  else
  (if a4 = 0 then
  ((f_Line_tilt N x12.2).bind (fun x14 =>
  (f_Line_spread N x14.2).bind (fun x15 =>
  (f_S_tell N x14.1 x15.1 x15.2).bind (fun x16 =>
  some (x16.1, x16.2)))))
  else
  ((f_Line_restTop N x12.2).bind (fun x17 =>
  (f_Line_restBottom N x17.2).bind (fun x18 =>
  (f_S_tell N x17.1 x18.1 x18.2).bind (fun x19 =>
  some (x19.1, x19.2))))))))))))))))))
def C_S_line (N : Nat) : MC := (KDL, false, (fun _ => 0), jsB, (fun j => match Nat.beq j 32 with
    | true => w_Line_stands (f_Line_stands N)
    | false => match Nat.beq j 146 with
    | true => w_S_refuse (f_S_refuse N)
    | false => match Nat.beq j 148 with
    | true => w_S_tell (f_S_tell N)
    | false => match Nat.beq j 151 with
    | true => w_S_isOneOf (f_S_isOneOf N)
    | false => match Nat.beq j 153 with
    | true => w_S_isYear (f_S_isYear N)
    | false => match Nat.beq j 157 with
    | true => w_S_isMark (f_S_isMark N)
    | false => fun _ _ => none), (fun j => match Nat.beq j 33 with
    | true => w_Line_spread (f_Line_spread N)
    | false => match Nat.beq j 34 with
    | true => w_Line_tilt (f_Line_tilt N)
    | false => match Nat.beq j 35 with
    | true => w_Line_restTop (f_Line_restTop N)
    | false => match Nat.beq j 36 with
    | true => w_Line_restBottom (f_Line_restBottom N)
    | false => fun _ _ => none), (fun _ _ _ => none), (fun j => match Nat.beq j 22 with
    | true => w_Ledger_gather (f_Ledger_gather N)
    | false => match Nat.beq j 24 with
    | true => w_Ledger_fit (f_Ledger_fit N)
    | false => fun _ _ => none))
def D_S_line (N : Nat) (n pc : Nat) (lv : ML) (st : List MV) (h : MH) : Option (Int32 × MH) :=
  match Nat.beq pc 0 with
  | true => (match lk lv 0, lk lv 1, lk lv 2, lk lv 3, lk lv 4, st with
    | some (.inr (.inr (0, 11, 1))), some (.inl a1), some (.inl a2), some (.inl a3), some (.inl a4), [] => f_S_line N a1 a2 a3 a4 h
    | _, _, _, _, _, _ => none)
  | false => none
set_option maxRecDepth 1000000 in
theorem E_S_line_0 (N : Nat) (n : Nat) (a1 : Int32) (a2 : Int32) (a3 : Int32) (a4 : Int32) (h : MH) : seg (C_S_line N) 5 0 rI T_S_line [0] (fun q lv st h => match Nat.ble 1 q with
    | true => D_S_line N n q lv st h
    | false => none) 400 true 0 [(0, .inr (.inr (0, 11, 1))), (1, .inl a1), (2, .inl a2), (3, .inl a3), (4, .inl a4)] [] h = f_S_line N a1 a2 a3 a4 h := (rfl)
def T_S_breaks : List (List (Option RW)) := [
  [some (.aload_n 0, 1, [0], 0, 0), some (.iload_n 1, 1, [1], 0, 0), some (.invokevirtual 198, 3, [0, 157, 2, 0], 0, 0), none, none, some (.ifCond .ne 9, 3, [14], 0, 0), none, none, some (.aload_n 0, 1, [0], 0, 0), some (.iconst 1, 1, [], 1, 0), some (.invokevirtual 128, 3, [0, 146, 2, 0], 0, 0), none, none, some (.ireturn, 1, [], 0, 0), some (.aload_n 0, 1, [0], 0, 0), some (.getfield 25, 3, [11, 2, 2, 0, 3, 15], 0, 0), none, none, some (.iload_n 1, 1, [1], 0, 0), some (.invokevirtual 234, 3, [1, 22, 2, 3], 0, 0), none, none, some (.aload_n 0, 1, [0], 0, 0), some (.getfield 25, 3, [11, 2, 2, 0, 3, 15], 0, 0), none, none, some (.aload_n 0, 1, [0], 0, 0), some (.getfield 32, 3, [11, 3, 2, 0, 4, 27], 0, 0), none, none, some (.invokevirtual 272, 3, [1, 25, 2, 0], 0, 0), none],
  [none, some (.istore_n 2, 1, [2], 0, 0), some (.iload_n 2, 1, [2], 0, 0), some (.ifCond .ge 12, 3, [47], 0, 0), none, none, some (.aload_n 0, 1, [0], 0, 0), some (.bipush 6, 2, [], 6, 0), none, some (.invokevirtual 128, 3, [0, 146, 2, 0], 0, 0), none, none, some (.goto 8, 3, [52], 0, 0), none, none, some (.aload_n 0, 1, [0], 0, 0), some (.iload_n 2, 1, [2], 0, 0), some (.invokevirtual 183, 3, [0, 144, 2, 0], 0, 0), none, none, some (.ireturn, 1, [], 0, 0)]]
def f_S_breaks (N : Nat) (a1 : Int32) (h : MH) : Option (Int32 × MH) :=
  (f_S_isMark N a1 h).bind (fun x1 =>
  if x1.1 = 0 then
  ((f_S_refuse N 1 x1.2).bind (fun x2 =>
  some (x2.1, x2.2)))
  else
  ((f_Ledger_gather N a1 x1.2).bind (fun x3 =>
  (f_Ledger_breakYear N x3).bind (fun x4 =>
  if 0 ≤ x4.1 then
  ((f_S_answer N x4.1 x4.2).bind (fun x5 =>
  some (x5.1, x5.2)))
  else
  ((f_S_refuse N 6 x4.2).bind (fun x6 =>
  some (x6.1, x6.2)))))))
def C_S_breaks (N : Nat) : MC := (KDL, false, (fun _ => 0), jsB, (fun j => match Nat.beq j 25 with
    | true => w_Ledger_breakYear (f_Ledger_breakYear N)
    | false => match Nat.beq j 144 with
    | true => w_S_answer (f_S_answer N)
    | false => match Nat.beq j 146 with
    | true => w_S_refuse (f_S_refuse N)
    | false => match Nat.beq j 157 with
    | true => w_S_isMark (f_S_isMark N)
    | false => fun _ _ => none), (fun _ _ _ => none), (fun _ _ _ => none), (fun j => match Nat.beq j 22 with
    | true => w_Ledger_gather (f_Ledger_gather N)
    | false => fun _ _ => none))
def D_S_breaks (N : Nat) (n pc : Nat) (lv : ML) (st : List MV) (h : MH) : Option (Int32 × MH) :=
  match Nat.beq pc 0 with
  | true => (match lk lv 0, lk lv 1, st with
    | some (.inr (.inr (0, 11, 1))), some (.inl a1), [] => f_S_breaks N a1 h
    | _, _, _ => none)
  | false => none
set_option maxRecDepth 1000000 in
theorem E_S_breaks_0 (N : Nat) (n : Nat) (a1 : Int32) (h : MH) : seg (C_S_breaks N) 3 0 rI T_S_breaks [0] (fun q lv st h => match Nat.ble 1 q with
    | true => D_S_breaks N n q lv st h
    | false => none) 400 true 0 [(0, .inr (.inr (0, 11, 1))), (1, .inl a1)] [] h = f_S_breaks N a1 h := (rfl)
def T_S_slow : List (List (Option RW)) := [
  [some (.aload_n 0, 1, [0], 0, 0), some (.iload_n 1, 1, [1], 0, 0), some (.invokevirtual 198, 3, [0, 157, 2, 0], 0, 0), none, none, some (.ifCond .eq 26, 3, [31], 0, 0), none, none, some (.iload_n 2, 1, [2], 0, 0), some (.iconst 2, 1, [], 2, 0), some (.bipush 10, 2, [], 10, 0), none, some (.invokestatic 207, 3, [2, 150, 3, 0], 0, 0), none, none, some (.ifCond .eq 16, 3, [31], 0, 0), none, none, some (.iload_n 3, 1, [3], 0, 0), some (.ifCond .lt 12, 3, [31], 0, 0), none, none, some (.iload 4, 2, [4], 0, 0), none, some (.iconst 3, 1, [], 3, 0), some (.invokestatic 186, 3, [2, 151, 2, 0], 0, 0), none, none, some (.ifCond .ne 9, 3, [37], 0, 0), none, none, some (.aload_n 0, 1, [0], 0, 0)],
  [some (.iconst 1, 1, [], 1, 0), some (.invokevirtual 128, 3, [0, 146, 2, 0], 0, 0), none, none, some (.ireturn, 1, [], 0, 0), some (.aload_n 0, 1, [0], 0, 0), some (.getfield 25, 3, [11, 2, 2, 0, 3, 15], 0, 0), none, none, some (.iload_n 1, 1, [1], 0, 0), some (.invokevirtual 234, 3, [1, 22, 2, 3], 0, 0), none, none, some (.aload_n 0, 1, [0], 0, 0), some (.getfield 25, 3, [11, 2, 2, 0, 3, 15], 0, 0), none, none, some (.aload_n 0, 1, [0], 0, 0), some (.getfield 32, 3, [11, 3, 2, 0, 4, 27], 0, 0), none, none, some (.iload_n 2, 1, [2], 0, 0), some (.iload_n 3, 1, [3], 0, 0), some (.iload 4, 2, [4], 0, 0), none, some (.invokevirtual 276, 3, [1, 27, 5, 0], 0, 0), none, none, some (.istore 5, 2, [5], 0, 0), none, some (.iload 5, 2, [5], 0, 0), none],
  [some (.ifCond .ge 12, 3, [76], 0, 0), none, none, some (.aload_n 0, 1, [0], 0, 0), some (.bipush 6, 2, [], 6, 0), none, some (.invokevirtual 128, 3, [0, 146, 2, 0], 0, 0), none, none, some (.goto 9, 3, [82], 0, 0), none, none, some (.aload_n 0, 1, [0], 0, 0), some (.iload 5, 2, [5], 0, 0), none, some (.invokevirtual 183, 3, [0, 144, 2, 0], 0, 0), none, none, some (.ireturn, 1, [], 0, 0)]]
def f_S_slow (N : Nat) (a1 : Int32) (a2 : Int32) (a3 : Int32) (a4 : Int32) (h : MH) : Option (Int32 × MH) :=
  (f_S_isMark N a1 h).bind (fun x1 =>
  if x1.1 = 0 then
  ((f_S_refuse N 1 x1.2).bind (fun x2 =>
  some (x2.1, x2.2)))
  else
  ((f_S_isWithin N a2 2 10 x1.2).bind (fun x3 =>
  if x3.1 = 0 then
  ((f_S_refuse N 1 x3.2).bind (fun x4 =>
  some (x4.1, x4.2)))
  else
  (if a3 < 0 then
  ((f_S_refuse N 1 x3.2).bind (fun x5 =>
  some (x5.1, x5.2)))
  else
  ((f_S_isOneOf N a4 3 x3.2).bind (fun x6 =>
  if x6.1 = 0 then
  ((f_S_refuse N 1 x6.2).bind (fun x7 =>
  some (x7.1, x7.2)))
  else
  ((f_Ledger_gather N a1 x6.2).bind (fun x8 =>
  (f_Ledger_slowSlip N a2 a3 a4 x8).bind (fun x9 =>
  if 0 ≤ x9.1 then
  ((f_S_answer N x9.1 x9.2).bind (fun x10 =>
  some (x10.1, x10.2)))
  else
  ((f_S_refuse N 6 x9.2).bind (fun x11 =>
  some (x11.1, x11.2))))))))))))
def C_S_slow (N : Nat) : MC := (KDL, false, (fun _ => 0), jsB, (fun j => match Nat.beq j 27 with
    | true => w_Ledger_slowSlip (f_Ledger_slowSlip N)
    | false => match Nat.beq j 144 with
    | true => w_S_answer (f_S_answer N)
    | false => match Nat.beq j 146 with
    | true => w_S_refuse (f_S_refuse N)
    | false => match Nat.beq j 150 with
    | true => w_S_isWithin (f_S_isWithin N)
    | false => match Nat.beq j 151 with
    | true => w_S_isOneOf (f_S_isOneOf N)
    | false => match Nat.beq j 157 with
    | true => w_S_isMark (f_S_isMark N)
    | false => fun _ _ => none), (fun _ _ _ => none), (fun _ _ _ => none), (fun j => match Nat.beq j 22 with
    | true => w_Ledger_gather (f_Ledger_gather N)
    | false => fun _ _ => none))
def D_S_slow (N : Nat) (n pc : Nat) (lv : ML) (st : List MV) (h : MH) : Option (Int32 × MH) :=
  match Nat.beq pc 0 with
  | true => (match lk lv 0, lk lv 1, lk lv 2, lk lv 3, lk lv 4, st with
    | some (.inr (.inr (0, 11, 1))), some (.inl a1), some (.inl a2), some (.inl a3), some (.inl a4), [] => f_S_slow N a1 a2 a3 a4 h
    | _, _, _, _, _, _ => none)
  | false => none
set_option maxRecDepth 1000000 in
theorem E_S_slow_0 (N : Nat) (n : Nat) (a1 : Int32) (a2 : Int32) (a3 : Int32) (a4 : Int32) (h : MH) : seg (C_S_slow N) 6 0 rI T_S_slow [0] (fun q lv st h => match Nat.ble 1 q with
    | true => D_S_slow N n q lv st h
    | false => none) 400 true 0 [(0, .inr (.inr (0, 11, 1))), (1, .inl a1), (2, .inl a2), (3, .inl a3), (4, .inl a4)] [] h = f_S_slow N a1 a2 a3 a4 h := (rfl)
def T_S_smooth : List (List (Option RW)) := [
  [some (.iload_n 1, 1, [1], 0, 0), some (.iconst 0, 1, [], 0, 0), some (.bipush 9, 2, [], 9, 0), none, some (.invokestatic 207, 3, [2, 150, 3, 0], 0, 0), none, none, some (.ifCond .ne 9, 3, [16], 0, 0), none, none, some (.aload_n 0, 1, [0], 0, 0), some (.iconst 1, 1, [], 1, 0), some (.invokevirtual 109, 3, [0, 147, 2, 0], 0, 0), none, none, some (.ireturn, 1, [], 0, 0), some (.aload_n 0, 1, [0], 0, 0), some (.iload_n 1, 1, [1], 0, 0), some (.putfield 95, 3, [11, 15, 0], 0, 0), none, none, some (.aload_n 0, 1, [0], 0, 0), some (.invokevirtual 116, 3, [0, 145, 1, 0], 0, 0), none, none, some (.ireturn, 1, [], 0, 0)]]
def f_S_smooth (N : Nat) (a1 : Int32) (h : MH) : Option (Int32 × MH) :=
  (f_S_isWithin N a1 0 9 h).bind (fun x1 =>
  if x1.1 = 0 then
  ((f_S_deny N 1 x1.2).bind (fun x2 =>
  match narOK 1 x2.1 with
  | true => some (x2.1, x2.2)
  | false => none))
  else
  (let h3 : MH := sI x1.2 1 15 a1
  (f_S_allow N h3).bind (fun x4 =>
  match narOK 1 x4.1 with
  | true => some (x4.1, x4.2)
  | false => none)))
def C_S_smooth (N : Nat) : MC := (KDL, false, (fun _ => 0), jsB, (fun j => match Nat.beq j 145 with
    | true => w_S_allow (f_S_allow N)
    | false => match Nat.beq j 147 with
    | true => w_S_deny (f_S_deny N)
    | false => match Nat.beq j 150 with
    | true => w_S_isWithin (f_S_isWithin N)
    | false => fun _ _ => none), (fun _ _ _ => none), (fun _ _ _ => none), (fun _ _ _ => none))
def D_S_smooth (N : Nat) (n pc : Nat) (lv : ML) (st : List MV) (h : MH) : Option (Int32 × MH) :=
  match Nat.beq pc 0 with
  | true => (match lk lv 0, lk lv 1, st with
    | some (.inr (.inr (0, 11, 1))), some (.inl a1), [] => f_S_smooth N a1 h
    | _, _, _ => none)
  | false => none
set_option maxRecDepth 1000000 in
theorem E_S_smooth_0 (N : Nat) (n : Nat) (a1 : Int32) (h : MH) : seg (C_S_smooth N) 2 1 rI T_S_smooth [0] (fun q lv st h => match Nat.ble 1 q with
    | true => D_S_smooth N n q lv st h
    | false => none) 400 true 0 [(0, .inr (.inr (0, 11, 1))), (1, .inl a1)] [] h = f_S_smooth N a1 h := (rfl)
def T_S_areYears : List (List (Option RW)) := [
  [some (.iload_n 0, 1, [0], 0, 0), some (.invokestatic 204, 3, [2, 153, 1, 0], 0, 0), none, none, some (.ifCond .eq 19, 3, [23], 0, 0), none, none, some (.iload_n 1, 1, [1], 0, 0), some (.invokestatic 204, 3, [2, 153, 1, 0], 0, 0), none, none, some (.ifCond .eq 12, 3, [23], 0, 0), none, none, some (.iload_n 0, 1, [0], 0, 0), some (.iload_n 1, 1, [1], 0, 0), some (.if_icmp .ge 7, 3, [23], 0, 0), none, none, some (.iconst 1, 1, [], 1, 0), some (.goto 4, 3, [24], 0, 0), none, none, some (.iconst 0, 1, [], 0, 0), some (.ireturn, 1, [], 0, 0)]]
def f_S_areYears (N : Nat) (a0 : Int32) (a1 : Int32) (h : MH) : Option (Int32 × MH) :=
  (f_S_isYear N a0 h).bind (fun x1 =>
  if x1.1 = 0 then
  (some (0, x1.2))
  else
  ((f_S_isYear N a1 x1.2).bind (fun x2 =>
  if x2.1 = 0 then
  (some (0, x2.2))
  else
  (if a1 ≤ a0 then
  (some (0, x2.2))
  else
  (some (1, x2.2))))))
def C_S_areYears (N : Nat) : MC := (KDL, false, (fun _ => 0), jsB, (fun j => match Nat.beq j 153 with
    | true => w_S_isYear (f_S_isYear N)
    | false => fun _ _ => none), (fun _ _ _ => none), (fun _ _ _ => none), (fun _ _ _ => none))
def D_S_areYears (N : Nat) (n pc : Nat) (lv : ML) (st : List MV) (h : MH) : Option (Int32 × MH) :=
  match Nat.beq pc 0 with
  | true => (match lk lv 0, lk lv 1, st with
    | some (.inl a0), some (.inl a1), [] => f_S_areYears N a0 a1 h
    | _, _, _ => none)
  | false => none
set_option maxRecDepth 1000000 in
theorem E_S_areYears_0 (N : Nat) (n : Nat) (a0 : Int32) (a1 : Int32) (h : MH) : seg (C_S_areYears N) 2 1 rI T_S_areYears [0] (fun q lv st h => match Nat.ble 1 q with
    | true => D_S_areYears N n q lv st h
    | false => none) 400 true 0 [(0, .inl a0), (1, .inl a1)] [] h = f_S_areYears N a0 a1 h := (rfl)
def T_S_walkAll : List (List (Option RW)) := [
  [some (.aload_n 0, 1, [0], 0, 0), some (.getfield 46, 3, [11, 5, 2, 0, 0, 32], 0, 0), none, none, some (.aload_n 0, 1, [0], 0, 0), some (.getfield 81, 3, [11, 11, 3, 0, 2], 0, 0), none, none, some (.aload_n 0, 1, [0], 0, 0), some (.getfield 25, 3, [11, 2, 2, 0, 3, 15], 0, 0), none, none, some (.iload_n 1, 1, [1], 0, 0), some (.iload_n 2, 1, [2], 0, 0), some (.invokevirtual 299, 3, [1, 1, 5, 3], 0, 0), none, none, some (.aload_n 0, 1, [0], 0, 0), some (.getfield 53, 3, [11, 6, 2, 0, 10, 41], 0, 0), none, none, some (.aload_n 0, 1, [0], 0, 0), some (.getfield 46, 3, [11, 5, 2, 0, 0, 32], 0, 0), none, none, some (.aload_n 0, 1, [0], 0, 0), some (.getfield 95, 3, [11, 15, 0], 0, 0), none, none, some (.iload_n 3, 1, [3], 0, 0), some (.iload 4, 2, [4], 0, 0), none],
  [some (.invokevirtual 389, 3, [1, 92, 5, 3], 0, 0), none, none, some (.return_, 1, [], 0, 0)]]
def f_S_walkAll (N : Nat) (a1 : Int32) (a2 : Int32) (a3 : Int32) (a4 : Int32) (h : MH) : Option (MH) :=
  (f_Asked_prepare N (gR h 1 11) a1 a2 h).bind (fun x1 =>
  (f_Walk_all N (gI x1 1 15) a3 a4 x1).bind (fun x2 =>
  some x2))
def C_S_walkAll (N : Nat) : MC := (KDL, false, (fun _ => 0), jsB, (fun _ _ _ => none), (fun _ _ _ => none), (fun _ _ _ => none), (fun j => match Nat.beq j 1 with
    | true => w_Asked_prepare (f_Asked_prepare N)
    | false => match Nat.beq j 92 with
    | true => w_Walk_all (f_Walk_all N)
    | false => fun _ _ => none))
def D_S_walkAll (N : Nat) (n pc : Nat) (lv : ML) (st : List MV) (h : MH) : Option (MH) :=
  match Nat.beq pc 0 with
  | true => (match lk lv 0, lk lv 1, lk lv 2, lk lv 3, lk lv 4, st with
    | some (.inr (.inr (0, 11, 1))), some (.inl a1), some (.inl a2), some (.inl a3), some (.inl a4), [] => f_S_walkAll N a1 a2 a3 a4 h
    | _, _, _, _, _, _ => none)
  | false => none
set_option maxRecDepth 1000000 in
theorem E_S_walkAll_0 (N : Nat) (n : Nat) (a1 : Int32) (a2 : Int32) (a3 : Int32) (a4 : Int32) (h : MH) : seg (C_S_walkAll N) 5 0 rV T_S_walkAll [0] (fun q lv st h => match Nat.ble 1 q with
    | true => D_S_walkAll N n q lv st h
    | false => none) 400 true 0 [(0, .inr (.inr (0, 11, 1))), (1, .inl a1), (2, .inl a2), (3, .inl a3), (4, .inl a4)] [] h = f_S_walkAll N a1 a2 a3 a4 h := (rfl)
def T_S_slips : List (List (Option RW)) := [
  [some (.iload_n 1, 1, [1], 0, 0), some (.iload_n 2, 1, [2], 0, 0), some (.invokestatic 280, 3, [2, 154, 2, 0], 0, 0), none, none, some (.ifCond .ne 9, 3, [14], 0, 0), none, none, some (.aload_n 0, 1, [0], 0, 0), some (.iconst 1, 1, [], 1, 0), some (.invokevirtual 128, 3, [0, 146, 2, 0], 0, 0), none, none, some (.ireturn, 1, [], 0, 0), some (.aload_n 0, 1, [0], 0, 0), some (.getfield 81, 3, [11, 11, 3, 0, 2], 0, 0), none, none, some (.getfield 189, 3, [2, 0, 0], 0, 0), none, none, some (.ifCond .ne 10, 3, [31], 0, 0), none, none, some (.aload_n 0, 1, [0], 0, 0), some (.bipush 6, 2, [], 6, 0), none, some (.invokevirtual 128, 3, [0, 146, 2, 0], 0, 0), none, none, some (.ireturn, 1, [], 0, 0), some (.aload_n 0, 1, [0], 0, 0)],
  [some (.iload_n 1, 1, [1], 0, 0), some (.iload_n 2, 1, [2], 0, 0), some (.iconst 0, 1, [], 0, 0), some (.iconst 0, 1, [], 0, 0), some (.invokevirtual 283, 3, [0, 161, 5, 3], 0, 0), none, none, some (.aload_n 0, 1, [0], 0, 0), some (.aload_n 0, 1, [0], 0, 0), some (.getfield 53, 3, [11, 6, 2, 0, 10, 41], 0, 0), none, none, some (.getfield 287, 3, [10, 4, 0], 0, 0), none, none, some (.invokevirtual 183, 3, [0, 144, 2, 0], 0, 0), none, none, some (.ireturn, 1, [], 0, 0)]]
def f_S_slips (N : Nat) (a1 : Int32) (a2 : Int32) (h : MH) : Option (Int32 × MH) :=
  (f_S_areYears N a1 a2 h).bind (fun x1 =>
  if x1.1 = 0 then
  ((f_S_refuse N 1 x1.2).bind (fun x2 =>
  some (x2.1, x2.2)))
  else
  (if (gI x1.2 (gR x1.2 1 11) 0) = 0 then
  ((f_S_refuse N 6 x1.2).bind (fun x3 =>
  some (x3.1, x3.2)))
  else
  ((f_S_walkAll N a1 a2 0 0 x1.2).bind (fun x4 =>
  (f_S_answer N (gI x4 42 4) x4).bind (fun x5 =>
  some (x5.1, x5.2))))))
def C_S_slips (N : Nat) : MC := (KDL, false, (fun _ => 0), jsB, (fun j => match Nat.beq j 144 with
    | true => w_S_answer (f_S_answer N)
    | false => match Nat.beq j 146 with
    | true => w_S_refuse (f_S_refuse N)
    | false => match Nat.beq j 154 with
    | true => w_S_areYears (f_S_areYears N)
    | false => fun _ _ => none), (fun _ _ _ => none), (fun _ _ _ => none), (fun j => match Nat.beq j 161 with
    | true => w_S_walkAll (f_S_walkAll N)
    | false => fun _ _ => none))
def D_S_slips (N : Nat) (n pc : Nat) (lv : ML) (st : List MV) (h : MH) : Option (Int32 × MH) :=
  match Nat.beq pc 0 with
  | true => (match lk lv 0, lk lv 1, lk lv 2, st with
    | some (.inr (.inr (0, 11, 1))), some (.inl a1), some (.inl a2), [] => f_S_slips N a1 a2 h
    | _, _, _, _ => none)
  | false => none
set_option maxRecDepth 1000000 in
theorem E_S_slips_0 (N : Nat) (n : Nat) (a1 : Int32) (a2 : Int32) (h : MH) : seg (C_S_slips N) 3 0 rI T_S_slips [0] (fun q lv st h => match Nat.ble 1 q with
    | true => D_S_slips N n q lv st h
    | false => none) 400 true 0 [(0, .inr (.inr (0, 11, 1))), (1, .inl a1), (2, .inl a2)] [] h = f_S_slips N a1 a2 h := (rfl)
