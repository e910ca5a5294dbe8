def T_M_wide : List (List (Option RW)) := [
  [some (.aload_n 0, 1, [0], 0, 0), some (.getfield 387, 3, [12, 60, 1], 0, 0), none, none, some (.aload_n 0, 1, [0], 0, 0), some (.getfield 396, 3, [12, 63, 1], 0, 0), none, none, some (.lmul, 1, [], 0, 0), some (.aload_n 0, 1, [0], 0, 0), some (.getfield 390, 3, [12, 61, 1], 0, 0), none, none, some (.aload_n 0, 1, [0], 0, 0), some (.getfield 390, 3, [12, 61, 1], 0, 0), none, none, some (.lmul, 1, [], 0, 0), some (.lsub, 1, [], 0, 0), some (.lreturn, 1, [], 0, 0)]]
def f_M_wide (N : Nat) (h : MH) : Option (Int64 × MH) :=
  some (((gJ h 68 60) * (gJ h 68 63)) - ((gJ h 68 61) * (gJ h 68 61)), h)
def C_M_wide (N : Nat) : MC := (KDL, false, (fun _ => 0), jsB, (fun _ _ _ => none), (fun _ _ _ => none), (fun _ _ _ => none), (fun _ _ _ => none))
def D_M_wide (N : Nat) (n pc : Nat) (lv : ML) (st : List MV) (h : MH) : Option (Int64 × MH) :=
  match Nat.beq pc 0 with
  | true => (match lk lv 0, st with
    | some (.inr (.inr (0, 12, 68))), [] => f_M_wide N h
    | _, _ => none)
  | false => none
set_option maxRecDepth 1000000 in
theorem E_M_wide_0 (N : Nat) (n : Nat) (h : MH) : seg (C_M_wide N) 1 0 rJ T_M_wide [0] (fun q lv st h => match Nat.ble 1 q with
    | true => D_M_wide N n q lv st h
    | false => none) 400 true 0 [(0, .inr (.inr (0, 12, 68)))] [] h = f_M_wide N h := (rfl)
def T_M_rest : List (List (Option RW)) := [
  [some (.aload_n 0, 1, [0], 0, 0), some (.getfield 387, 3, [12, 60, 1], 0, 0), none, none, some (.aload_n 0, 1, [0], 0, 0), some (.getfield 402, 3, [12, 65, 1], 0, 0), none, none, some (.lmul, 1, [], 0, 0), some (.aload_n 0, 1, [0], 0, 0), some (.getfield 393, 3, [12, 62, 1], 0, 0), none, none, some (.aload_n 0, 1, [0], 0, 0), some (.getfield 393, 3, [12, 62, 1], 0, 0), none, none, some (.lmul, 1, [], 0, 0), some (.lsub, 1, [], 0, 0), some (.aload_n 0, 1, [0], 0, 0), some (.invokevirtual 405, 3, [0, 220, 1, 1], 0, 0), none, none, some (.lmul, 1, [], 0, 0), some (.aload_n 0, 1, [0], 0, 0), some (.invokevirtual 408, 3, [0, 219, 1, 1], 0, 0), none, none, some (.aload_n 0, 1, [0], 0, 0), some (.invokevirtual 408, 3, [0, 219, 1, 1], 0, 0), none, none],
  [some (.lmul, 1, [], 0, 0), some (.lsub, 1, [], 0, 0), some (.lreturn, 1, [], 0, 0)]]
def f_M_rest (N : Nat) (h : MH) : Option (Int64 × MH) :=
  (f_M_wide N h).bind (fun x1 =>
  (f_M_steep N x1.2).bind (fun x2 =>
  (f_M_steep N x2.2).bind (fun x3 =>
  some (((((gJ h 68 60) * (gJ h 68 65)) - ((gJ h 68 62) * (gJ h 68 62))) * x1.1) - (x2.1 * x3.1), x3.2))))
def C_M_rest (N : Nat) : MC := (KDL, false, (fun _ => 0), jsB, (fun _ _ _ => none), (fun j => match Nat.beq j 219 with
    | true => w_M_steep (f_M_steep N)
    | false => match Nat.beq j 220 with
    | true => w_M_wide (f_M_wide N)
    | false => fun _ _ => none), (fun _ _ _ => none), (fun _ _ _ => none))
def D_M_rest (N : Nat) (n pc : Nat) (lv : ML) (st : List MV) (h : MH) : Option (Int64 × MH) :=
  match Nat.beq pc 0 with
  | true => (match lk lv 0, st with
    | some (.inr (.inr (0, 12, 68))), [] => f_M_rest N h
    | _, _ => none)
  | false => none
set_option maxRecDepth 1000000 in
theorem E_M_rest_0 (N : Nat) (n : Nat) (h : MH) : seg (C_M_rest N) 1 0 rJ T_M_rest [0] (fun q lv st h => match Nat.ble 1 q with
    | true => D_M_rest N n q lv st h
    | false => none) 400 true 0 [(0, .inr (.inr (0, 12, 68)))] [] h = f_M_rest N h := (rfl)
def T_M_line : List (List (Option RW)) := [
  [some (.aload_n 0, 1, [0], 0, 0), some (.iload_n 1, 1, [1], 0, 0), some (.invokevirtual 366, 3, [0, 205, 2, 0], 0, 0), none, none, some (.ifCond .eq 33, 3, [38], 0, 0), none, none, some (.iload_n 2, 1, [2], 0, 0), some (.invokestatic 369, 3, [2, 209, 1, 0], 0, 0), none, none, some (.ifCond .eq 26, 3, [38], 0, 0), none, none, some (.iload_n 3, 1, [3], 0, 0), some (.invokestatic 369, 3, [2, 209, 1, 0], 0, 0), none, none, some (.ifCond .eq 19, 3, [38], 0, 0), none, none, some (.iload_n 2, 1, [2], 0, 0), some (.iload_n 3, 1, [3], 0, 0), some (.if_icmp .gt 14, 3, [38], 0, 0), none, none, some (.iload 4, 2, [4], 0, 0), none, some (.ifCond .lt 9, 3, [38], 0, 0), none, none],
  [some (.iload 4, 2, [4], 0, 0), none, some (.iconst 1, 1, [], 1, 0), some (.if_icmp .le 9, 3, [44], 0, 0), none, none, some (.aload_n 0, 1, [0], 0, 0), some (.iconst 1, 1, [], 1, 0), some (.invokevirtual 342, 3, [0, 168, 2, 0], 0, 0), none, none, some (.ireturn, 1, [], 0, 0), some (.aload_n 0, 1, [0], 0, 0), some (.iload_n 1, 1, [1], 0, 0), some (.iload_n 2, 1, [2], 0, 0), some (.iload_n 3, 1, [3], 0, 0), some (.invokevirtual 411, 3, [0, 218, 4, 3], 0, 0), none, none, some (.aload_n 0, 1, [0], 0, 0), some (.getfield 387, 3, [12, 60, 1], 0, 0), none, none, some (.ldc2_w 415, 3, [], 0, 2), none, none, some (.lcmp, 1, [], 0, 0), some (.ifCond .ge 10, 3, [69], 0, 0), none, none, some (.aload_n 0, 1, [0], 0, 0), some (.bipush 6, 2, [], 6, 0)],
  [none, some (.invokevirtual 342, 3, [0, 168, 2, 0], 0, 0), none, none, some (.ireturn, 1, [], 0, 0), some (.iload 4, 2, [4], 0, 0), none, some (.ifCond .ne 18, 3, [89], 0, 0), none, none, some (.aload_n 0, 1, [0], 0, 0), some (.aload_n 0, 1, [0], 0, 0), some (.invokevirtual 408, 3, [0, 219, 1, 1], 0, 0), none, none, some (.aload_n 0, 1, [0], 0, 0), some (.invokevirtual 405, 3, [0, 220, 1, 1], 0, 0), none, none, some (.invokevirtual 417, 3, [0, 170, 3, 0], 0, 0), none, none, some (.goto 20, 3, [106], 0, 0), none, none, some (.aload_n 0, 1, [0], 0, 0), some (.aload_n 0, 1, [0], 0, 0), some (.invokevirtual 421, 3, [0, 221, 1, 1], 0, 0), none, none, some (.aload_n 0, 1, [0], 0, 0), some (.getfield 387, 3, [12, 60, 1], 0, 0)],
  [none, none, some (.aload_n 0, 1, [0], 0, 0), some (.invokevirtual 405, 3, [0, 220, 1, 1], 0, 0), none, none, some (.lmul, 1, [], 0, 0), some (.invokevirtual 417, 3, [0, 170, 3, 0], 0, 0), none, none, some (.ireturn, 1, [], 0, 0)]]
def f_M_line (N : Nat) (a1 : Int32) (a2 : Int32) (a3 : Int32) (a4 : Int32) (h : MH) : Option (Int32 × MH) :=
  (f_M_isMark N a1 h).bind (fun x1 =>
  if x1.1 = 0 then
  ((f_M_refuse N 1 x1.2).bind (fun x2 =>
  some (x2.1, x2.2)))
  else
  ((f_M_isYear N a2 x1.2).bind (fun x3 =>
  if x3.1 = 0 then
  ((f_M_refuse N 1 x3.2).bind (fun x4 =>
  some (x4.1, x4.2)))
  else
  ((f_M_isYear N a3 x3.2).bind (fun x5 =>
  if x5.1 = 0 then
  ((f_M_refuse N 1 x5.2).bind (fun x6 =>
  some (x6.1, x6.2)))
  else
  (if a3 < a2 then
  ((f_M_refuse N 1 x5.2).bind (fun x7 =>
  some (x7.1, x7.2)))
  else
  (if a4 < 0 then
  ((f_M_refuse N 1 x5.2).bind (fun x8 =>
  some (x8.1, x8.2)))
  else
  (if a4 ≤ 1 then
  ((f_M_fit N a1 a2 a3 x5.2).bind (fun x9 =>
  if 0 ≤ (lg_cmp (gJ x9 68 60) 2) then
  (if a4 = 0 then
  ((f_M_steep N x9).bind (fun x10 =>
  (f_M_wide N x10.2).bind (fun x11 =>
  (f_M_fraction N x10.1 x11.1 x11.2).bind (fun x12 =>
  some (x12.1, x12.2)))))
  else
  ((f_M_rest N x9).bind (fun x13 =>
  (f_M_wide N x13.2).bind (fun x14 =>
  (f_M_fraction N x13.1 ((gJ x13.2 68 60) * x14.1) x14.2).bind (fun x15 =>
  some (x15.1, x15.2))))))
  else
  ((f_M_refuse N 6 x9).bind (fun x16 =>
  some (x16.1, x16.2)))))
  else
  ((f_M_refuse N 1 x5.2).bind (fun x17 =>
  some (x17.1, x17.2)))))))))))
def C_M_line (N : Nat) : MC := (KDL, false, (fun _ => 0), jsB, (fun j => match Nat.beq j 168 with
    | true => w_M_refuse (f_M_refuse N)
    | false => match Nat.beq j 170 with
    | true => w_M_fraction (f_M_fraction N)
    | false => match Nat.beq j 205 with
    | true => w_M_isMark (f_M_isMark N)
    | false => match Nat.beq j 209 with
    | true => w_M_isYear (f_M_isYear N)
    | false => fun _ _ => none), (fun j => match Nat.beq j 219 with
    | true => w_M_steep (f_M_steep N)
    | false => match Nat.beq j 220 with
    | true => w_M_wide (f_M_wide N)
    | false => match Nat.beq j 221 with
    | true => w_M_rest (f_M_rest N)
    | false => fun _ _ => none), (fun _ _ _ => none), (fun j => match Nat.beq j 218 with
    | true => w_M_fit (f_M_fit N)
    | false => fun _ _ => none))
def D_M_line (N : Nat) (n pc : Nat) (lv : ML) (st : List MV) (h : MH) : Option (Int32 × MH) :=
  match Nat.beq pc 0 with
  | true => (match lk lv 0, lk lv 1, lk lv 2, lk lv 3, lk lv 4, st with
    | some (.inr (.inr (0, 12, 68))), some (.inl a1), some (.inl a2), some (.inl a3), some (.inl a4), [] => f_M_line N a1 a2 a3 a4 h
    | _, _, _, _, _, _ => none)
  | false => none
set_option maxRecDepth 1000000 in
theorem E_M_line_0 (N : Nat) (n : Nat) (a1 : Int32) (a2 : Int32) (a3 : Int32) (a4 : Int32) (h : MH) : seg (C_M_line N) 5 0 rI T_M_line [0] (fun q lv st h => match Nat.ble 1 q with
    | true => D_M_line N n q lv st h
    | false => none) 400 true 0 [(0, .inr (.inr (0, 12, 68))), (1, .inl a1), (2, .inl a2), (3, .inl a3), (4, .inl a4)] [] h = f_M_line N a1 a2 a3 a4 h := (rfl)
def T_M_breaks : List (List (Option RW)) := [
  [some (.aload_n 0, 1, [0], 0, 0), some (.iload_n 1, 1, [1], 0, 0), some (.invokevirtual 366, 3, [0, 205, 2, 0], 0, 0), none, none, some (.ifCond .ne 9, 3, [14], 0, 0), none, none, some (.aload_n 0, 1, [0], 0, 0), some (.iconst 1, 1, [], 1, 0), some (.invokevirtual 342, 3, [0, 168, 2, 0], 0, 0), none, none, some (.ireturn, 1, [], 0, 0), some (.iconst (-1), 1, [], (-1), 0), some (.istore_n 2, 1, [2], 0, 0), some (.lconst 0, 1, [], 0, 0), some (.lstore_n 3, 1, [3], 0, 0), some (.iconst 1, 1, [], 1, 0), some (.istore 5, 2, [5], 0, 0), none, some (.iload 5, 2, [5], 0, 0), none, some (.bipush 20, 2, [], 20, 0), none, some (.if_icmp .ge 112, 3, [137], 0, 0), none, none, some (.aload_n 0, 1, [0], 0, 0), some (.iload_n 1, 1, [1], 0, 0), some (.iconst 0, 1, [], 0, 0), some (.iload 5, 2, [5], 0, 0)],
  [none, some (.iconst 1, 1, [], 1, 0), some (.isub, 1, [], 0, 0), some (.invokevirtual 411, 3, [0, 218, 4, 3], 0, 0), none, none, some (.aload_n 0, 1, [0], 0, 0), some (.getfield 387, 3, [12, 60, 1], 0, 0), none, none, some (.ldc2_w 415, 3, [], 0, 2), none, none, some (.lcmp, 1, [], 0, 0), some (.ifCond .ge 6, 3, [52], 0, 0), none, none, some (.goto 82, 3, [131], 0, 0), none, none, some (.aload_n 0, 1, [0], 0, 0), some (.invokevirtual 421, 3, [0, 221, 1, 1], 0, 0), none, none, some (.aload_n 0, 1, [0], 0, 0), some (.getfield 387, 3, [12, 60, 1], 0, 0), none, none, some (.aload_n 0, 1, [0], 0, 0), some (.invokevirtual 405, 3, [0, 220, 1, 1], 0, 0), none, none],
  [some (.lmul, 1, [], 0, 0), some (.ldiv, 1, [], 0, 0), some (.lstore 6, 2, [6], 0, 0), none, some (.aload_n 0, 1, [0], 0, 0), some (.iload_n 1, 1, [1], 0, 0), some (.iload 5, 2, [5], 0, 0), none, some (.bipush 19, 2, [], 19, 0), none, some (.invokevirtual 411, 3, [0, 218, 4, 3], 0, 0), none, none, some (.aload_n 0, 1, [0], 0, 0), some (.getfield 387, 3, [12, 60, 1], 0, 0), none, none, some (.ldc2_w 415, 3, [], 0, 2), none, none, some (.lcmp, 1, [], 0, 0), some (.ifCond .ge 6, 3, [91], 0, 0), none, none, some (.goto 43, 3, [131], 0, 0), none, none, some (.lload 6, 2, [6], 0, 0), none, some (.aload_n 0, 1, [0], 0, 0), some (.invokevirtual 421, 3, [0, 221, 1, 1], 0, 0), none],
  [none, some (.aload_n 0, 1, [0], 0, 0), some (.getfield 387, 3, [12, 60, 1], 0, 0), none, none, some (.aload_n 0, 1, [0], 0, 0), some (.invokevirtual 405, 3, [0, 220, 1, 1], 0, 0), none, none, some (.lmul, 1, [], 0, 0), some (.ldiv, 1, [], 0, 0), some (.ladd, 1, [], 0, 0), some (.lstore 6, 2, [6], 0, 0), none, some (.iload_n 2, 1, [2], 0, 0), some (.iconst (-1), 1, [], (-1), 0), some (.if_icmp .eq 13, 3, [125], 0, 0), none, none, some (.lload 6, 2, [6], 0, 0), none, some (.lload_n 3, 1, [3], 0, 0), some (.lcmp, 1, [], 0, 0), some (.ifCond .lt 6, 3, [125], 0, 0), none, none, some (.goto 9, 3, [131], 0, 0), none, none, some (.iload 5, 2, [5], 0, 0), none, some (.istore_n 2, 1, [2], 0, 0)],
  [some (.lload 6, 2, [6], 0, 0), none, some (.lstore_n 3, 1, [3], 0, 0), some (.iinc 5 1, 3, [5], 1, 0), none, none, some (.goto (-113), 3, [21], 0, 0), none, none, some (.iload_n 2, 1, [2], 0, 0), some (.iconst (-1), 1, [], (-1), 0), some (.if_icmp .ne 12, 3, [151], 0, 0), none, none, some (.aload_n 0, 1, [0], 0, 0), some (.bipush 6, 2, [], 6, 0), none, some (.invokevirtual 342, 3, [0, 168, 2, 0], 0, 0), none, none, some (.goto 8, 3, [156], 0, 0), none, none, some (.aload_n 0, 1, [0], 0, 0), some (.iload_n 2, 1, [2], 0, 0), some (.invokevirtual 180, 3, [0, 169, 2, 0], 0, 0), none, none, some (.ireturn, 1, [], 0, 0)]]
def F_M_breaks_21 (N : Nat) (bk : (Int32 → Int32 → Int64 → Int32 → MH → Option (Int32 × MH))) (a1 : Int32) (a2 : Int32) (a3 : Int64) (a5 : Int32) (h : MH) : Option (Int32 × MH) :=
  if 20 ≤ a5 then
  (if a2 = ((-1)) then
  ((f_M_refuse N 6 h).bind (fun x3 =>
  some (x3.1, x3.2)))
  else
  ((f_M_gives N a2 h).bind (fun x4 =>
  some (x4.1, x4.2))))
  else
  ((f_M_fit N a1 0 (a5 - 1) h).bind (fun x5 =>
  if 0 ≤ (lg_cmp (gJ x5 68 60) 2) then
  ((f_M_rest N x5).bind (fun x6 =>
  (f_M_wide N x6.2).bind (fun x7 =>
  if ((gJ x6.2 68 60) * x7.1) = 0 then none else
  let v8 : Int64 := x6.1 / ((gJ x6.2 68 60) * x7.1)
  (f_M_fit N a1 a5 19 x7.2).bind (fun x9 =>
  if 0 ≤ (lg_cmp (gJ x9 68 60) 2) then
  ((f_M_rest N x9).bind (fun x10 =>
  (f_M_wide N x10.2).bind (fun x11 =>
  if ((gJ x10.2 68 60) * x11.1) = 0 then none else
  let v12 : Int64 := v8 + (x10.1 / ((gJ x10.2 68 60) * x11.1))
  if a2 = ((-1)) then
  (let v13 : Int32 := a5 + 1
  bk a1 a5 v12 v13 x11.2)
  else
  (if (lg_cmp v12 a3) < 0 then
  (let v14 : Int32 := a5 + 1
  bk a1 a5 v12 v14 x11.2)
  else
  (let v15 : Int32 := a5 + 1
  bk a1 a2 a3 v15 x11.2)))))
  else
  (let v16 : Int32 := a5 + 1
  bk a1 a2 a3 v16 x9)))))
  else
  (let v17 : Int32 := a5 + 1
  bk a1 a2 a3 v17 x5)))
def F_M_breaks_0 (N : Nat) (bk : (Int32 → Int32 → Int64 → Int32 → MH → Option (Int32 × MH))) (a1 : Int32) (h : MH) : Option (Int32 × MH) :=
  (f_M_isMark N a1 h).bind (fun x1 =>
  if x1.1 = 0 then
  ((f_M_refuse N 1 x1.2).bind (fun x2 =>
  some (x2.1, x2.2)))
  else
  (F_M_breaks_21 N bk a1 ((-1)) 0 1 x1.2))
def L_M_breaks (N : Nat) : Nat → (Int32 → Int32 → Int64 → Int32 → MH → Option (Int32 × MH))
  | 0 => fun _ _ _ _ _ => none
  | n + 1 => F_M_breaks_21 N (L_M_breaks N n)
def f_M_breaks (N : Nat) (a1 : Int32) (h : MH) : Option (Int32 × MH) := F_M_breaks_0 N (L_M_breaks N N) a1 h
def C_M_breaks (N : Nat) : MC := (KDL, false, (fun _ => 0), jsB, (fun j => match Nat.beq j 168 with
    | true => w_M_refuse (f_M_refuse N)
    | false => match Nat.beq j 169 with
    | true => w_M_gives (f_M_gives N)
    | false => match Nat.beq j 205 with
    | true => w_M_isMark (f_M_isMark N)
    | false => fun _ _ => none), (fun j => match Nat.beq j 220 with
    | true => w_M_wide (f_M_wide N)
    | false => match Nat.beq j 221 with
    | true => w_M_rest (f_M_rest N)
    | false => fun _ _ => none), (fun _ _ _ => none), (fun j => match Nat.beq j 218 with
    | true => w_M_fit (f_M_fit N)
    | false => fun _ _ => none))
def D_M_breaks (N : Nat) (n pc : Nat) (lv : ML) (st : List MV) (h : MH) : Option (Int32 × MH) :=
  match Nat.beq pc 0 with
  | true => (match lk lv 0, lk lv 1, st with
    | some (.inr (.inr (0, 12, 68))), some (.inl a1), [] => F_M_breaks_0 N (L_M_breaks N n) a1 h
    | _, _, _ => none)
  | false => match Nat.beq pc 21 with
  | true => (match lk lv 0, lk lv 1, lk lv 2, lk lv 3, lk lv 5, st with
    | some (.inr (.inr (0, 12, 68))), some (.inl a1), some (.inl a2), some (.inr (.inl a3)), some (.inl a5), [] => F_M_breaks_21 N (L_M_breaks N n) a1 a2 a3 a5 h
    | _, _, _, _, _, _ => none)
  | false => none
def B_M_breaks (N : Nat) (n pc : Nat) (lv : ML) (st : List MV) (h : MH) : Option (Int32 × MH) :=
  match Nat.beq pc 21 with
  | true => (match lk lv 0, lk lv 1, lk lv 2, lk lv 3, lk lv 5, st with
    | some (.inr (.inr (0, 12, 68))), some (.inl a1), some (.inl a2), some (.inr (.inl a3)), some (.inl a5), [] => ((L_M_breaks N n)) a1 a2 a3 a5 h
    | _, _, _, _, _, _ => none)
  | false => none
set_option maxRecDepth 1000000 in
theorem E_M_breaks_0 (N : Nat) (n : Nat) (a1 : Int32) (h : MH) : seg (C_M_breaks N) 8 0 rI T_M_breaks [0, 21] (fun q lv st h => match Nat.ble 1 q with
    | true => D_M_breaks N n q lv st h
    | false => B_M_breaks N n q lv st h) 400 true 0 [(0, .inr (.inr (0, 12, 68))), (1, .inl a1)] [] h = F_M_breaks_0 N (L_M_breaks N n) a1 h := (rfl)
set_option maxRecDepth 1000000 in
theorem E_M_breaks_21 (N : Nat) (n : Nat) (a1 : Int32) (a2 : Int32) (a3 : Int64) (a5 : Int32) (h : MH) : seg (C_M_breaks N) 8 0 rI T_M_breaks [0, 21] (fun q lv st h => match Nat.ble 22 q with
    | true => D_M_breaks N n q lv st h
    | false => B_M_breaks N n q lv st h) 400 true 21 [(0, .inr (.inr (0, 12, 68))), (1, .inl a1), (2, .inl a2), (3, .inr (.inl a3)), (5, .inl a5)] [] h = F_M_breaks_21 N (L_M_breaks N n) a1 a2 a3 a5 h := (rfl)
def T_M_sideOf : List (List (Option RW)) := [
  [some (.aload_n 0, 1, [0], 0, 0), some (.iload_n 1, 1, [1], 0, 0), some (.invokevirtual 384, 3, [0, 216, 2, 0], 0, 0), none, none, some (.i2l, 1, [], 0, 0), some (.lstore_n 2, 1, [2], 0, 0), some (.lload_n 2, 1, [2], 0, 0), some (.aload_n 0, 1, [0], 0, 0), some (.getfield 387, 3, [12, 60, 1], 0, 0), none, none, some (.lmul, 1, [], 0, 0), some (.aload_n 0, 1, [0], 0, 0), some (.getfield 393, 3, [12, 62, 1], 0, 0), none, none, some (.lsub, 1, [], 0, 0), some (.aload_n 0, 1, [0], 0, 0), some (.invokevirtual 405, 3, [0, 220, 1, 1], 0, 0), none, none, some (.lmul, 1, [], 0, 0), some (.aload_n 0, 1, [0], 0, 0), some (.invokevirtual 408, 3, [0, 219, 1, 1], 0, 0), none, none, some (.aload_n 0, 1, [0], 0, 0), some (.getfield 387, 3, [12, 60, 1], 0, 0), none, none, some (.aload_n 0, 1, [0], 0, 0)],
  [some (.getfield 108, 3, [12, 53, 2, 1, 160, 28], 0, 0), none, none, some (.iload_n 1, 1, [1], 0, 0), some (.iaload, 1, [], 0, 0), some (.i2l, 1, [], 0, 0), some (.lmul, 1, [], 0, 0), some (.aload_n 0, 1, [0], 0, 0), some (.getfield 390, 3, [12, 61, 1], 0, 0), none, none, some (.lsub, 1, [], 0, 0), some (.lmul, 1, [], 0, 0), some (.lsub, 1, [], 0, 0), some (.lstore 4, 2, [4], 0, 0), none, some (.aload_n 0, 1, [0], 0, 0), some (.getfield 114, 3, [12, 55, 2, 1, 160, 30], 0, 0), none, none, some (.iload_n 1, 1, [1], 0, 0), some (.iaload, 1, [], 0, 0), some (.i2l, 1, [], 0, 0), some (.aload_n 0, 1, [0], 0, 0), some (.getfield 387, 3, [12, 60, 1], 0, 0), none, none, some (.lmul, 1, [], 0, 0), some (.aload_n 0, 1, [0], 0, 0), some (.invokevirtual 405, 3, [0, 220, 1, 1], 0, 0), none, none],
  [some (.lmul, 1, [], 0, 0), some (.lstore 6, 2, [6], 0, 0), none, some (.lload 4, 2, [4], 0, 0), none, some (.lload 6, 2, [6], 0, 0), none, some (.lcmp, 1, [], 0, 0), some (.ifCond .le 7, 3, [79], 0, 0), none, none, some (.iconst 1, 1, [], 1, 0), some (.goto 17, 3, [93], 0, 0), none, none, some (.lload 4, 2, [4], 0, 0), none, some (.lneg, 1, [], 0, 0), some (.lload 6, 2, [6], 0, 0), none, some (.lcmp, 1, [], 0, 0), some (.ifCond .le 7, 3, [92], 0, 0), none, none, some (.iconst (-1), 1, [], (-1), 0), some (.goto 4, 3, [93], 0, 0), none, none, some (.iconst 0, 1, [], 0, 0), some (.ireturn, 1, [], 0, 0)]]
def f_M_sideOf (N : Nat) (a1 : Int32) (h : MH) : Option (Int32 × MH) :=
  (f_M_valueOf N a1 h).bind (fun x1 =>
  (f_M_wide N x1.2).bind (fun x2 =>
  (f_M_steep N x2.2).bind (fun x3 =>
  if inB a1 160 = true then
  (let v4 : Int64 := (((x1.1.toInt64 * (gJ x1.2 68 60)) - (gJ x1.2 68 62)) * x2.1) - (x3.1 * (((gJ x3.2 68 60) * (((gI x3.2 96 (iN a1))).toInt64)) - (gJ x3.2 68 61)))
  if inB a1 160 = true then
  ((f_M_wide N x3.2).bind (fun x5 =>
  let v6 : Int64 := ((((gI x3.2 98 (iN a1))).toInt64) * (gJ x3.2 68 60)) * x5.1
  if (lg_cmp v4 v6) ≤ 0 then
  (if (lg_cmp (-v4) v6) ≤ 0 then
  (some (0, x5.2))
  else
  (some ((-1), x5.2)))
  else
  (some (1, x5.2))))
  else none)
  else none)))
def C_M_sideOf (N : Nat) : MC := (KDL, false, (fun _ => 0), jsB, (fun j => match Nat.beq j 216 with
    | true => w_M_valueOf (f_M_valueOf N)
    | false => fun _ _ => none), (fun j => match Nat.beq j 219 with
    | true => w_M_steep (f_M_steep N)
    | false => match Nat.beq j 220 with
    | true => w_M_wide (f_M_wide N)
    | false => fun _ _ => none), (fun _ _ _ => none), (fun _ _ _ => none))
def D_M_sideOf (N : Nat) (n pc : Nat) (lv : ML) (st : List MV) (h : MH) : Option (Int32 × MH) :=
  match Nat.beq pc 0 with
  | true => (match lk lv 0, lk lv 1, st with
    | some (.inr (.inr (0, 12, 68))), some (.inl a1), [] => f_M_sideOf N a1 h
    | _, _, _ => none)
  | false => none
set_option maxRecDepth 1000000 in
theorem E_M_sideOf_0 (N : Nat) (n : Nat) (a1 : Int32) (h : MH) : seg (C_M_sideOf N) 8 0 rI T_M_sideOf [0] (fun q lv st h => match Nat.ble 1 q with
    | true => D_M_sideOf N n q lv st h
    | false => none) 400 true 0 [(0, .inr (.inr (0, 12, 68))), (1, .inl a1)] [] h = f_M_sideOf N a1 h := (rfl)
def T_M_slow : List (List (Option RW)) := [
  [some (.aload_n 0, 1, [0], 0, 0), some (.iload_n 1, 1, [1], 0, 0), some (.invokevirtual 366, 3, [0, 205, 2, 0], 0, 0), none, none, some (.ifCond .eq 29, 3, [34], 0, 0), none, none, some (.iload_n 2, 1, [2], 0, 0), some (.iconst 2, 1, [], 2, 0), some (.if_icmp .lt 24, 3, [34], 0, 0), none, none, some (.iload_n 2, 1, [2], 0, 0), some (.bipush 10, 2, [], 10, 0), none, some (.if_icmp .gt 18, 3, [34], 0, 0), none, none, some (.iload_n 3, 1, [3], 0, 0), some (.ifCond .lt 14, 3, [34], 0, 0), none, none, some (.iload 4, 2, [4], 0, 0), none, some (.ifCond .lt 9, 3, [34], 0, 0), none, none, some (.iload 4, 2, [4], 0, 0), none, some (.iconst 2, 1, [], 2, 0), some (.if_icmp .le 9, 3, [40], 0, 0)],
  [none, none, some (.aload_n 0, 1, [0], 0, 0), some (.iconst 1, 1, [], 1, 0), some (.invokevirtual 342, 3, [0, 168, 2, 0], 0, 0), none, none, some (.ireturn, 1, [], 0, 0), some (.aload_n 0, 1, [0], 0, 0), some (.iload_n 1, 1, [1], 0, 0), some (.iconst 0, 1, [], 0, 0), some (.bipush 19, 2, [], 19, 0), none, some (.invokevirtual 411, 3, [0, 218, 4, 3], 0, 0), none, none, some (.aload_n 0, 1, [0], 0, 0), some (.getfield 387, 3, [12, 60, 1], 0, 0), none, none, some (.ldc2_w 415, 3, [], 0, 2), none, none, some (.lcmp, 1, [], 0, 0), some (.ifCond .ge 10, 3, [66], 0, 0), none, none, some (.aload_n 0, 1, [0], 0, 0), some (.bipush 6, 2, [], 6, 0), none, some (.invokevirtual 342, 3, [0, 168, 2, 0], 0, 0), none],
  [none, some (.ireturn, 1, [], 0, 0), some (.iload_n 3, 1, [3], 0, 0), some (.istore 5, 2, [5], 0, 0), none, some (.iconst 0, 1, [], 0, 0), some (.istore 6, 2, [6], 0, 0), none, some (.iconst 0, 1, [], 0, 0), some (.istore 7, 2, [7], 0, 0), none, some (.iconst 0, 1, [], 0, 0), some (.istore 8, 2, [8], 0, 0), none, some (.iconst 0, 1, [], 0, 0), some (.istore 9, 2, [9], 0, 0), none, some (.iconst 0, 1, [], 0, 0), some (.istore 10, 2, [10], 0, 0), none, some (.iload 10, 2, [10], 0, 0), none, some (.bipush 20, 2, [], 20, 0), none, some (.if_icmp .gt 156, 3, [244], 0, 0), none, none, some (.iload 10, 2, [10], 0, 0), none, some (.bipush 20, 2, [], 20, 0), none, some (.if_icmp .ne 7, 3, [102], 0, 0)],
  [none, none, some (.iconst (-1), 1, [], (-1), 0), some (.goto 10, 3, [109], 0, 0), none, none, some (.aload_n 0, 1, [0], 0, 0), some (.iload_n 1, 1, [1], 0, 0), some (.iload 10, 2, [10], 0, 0), none, some (.invokevirtual 381, 3, [0, 215, 3, 0], 0, 0), none, none, some (.istore 11, 2, [11], 0, 0), none, some (.iload 11, 2, [11], 0, 0), none, some (.iconst (-1), 1, [], (-1), 0), some (.if_icmp .ne 13, 3, [127], 0, 0), none, none, some (.iload 10, 2, [10], 0, 0), none, some (.bipush 20, 2, [], 20, 0), none, some (.if_icmp .ge 6, 3, [127], 0, 0), none, none, some (.goto 114, 3, [238], 0, 0), none, none, some (.iload 11, 2, [11], 0, 0)],
  [none, some (.iconst (-1), 1, [], (-1), 0), some (.if_icmp .ne 7, 3, [137], 0, 0), none, none, some (.iconst 0, 1, [], 0, 0), some (.goto 9, 3, [143], 0, 0), none, none, some (.aload_n 0, 1, [0], 0, 0), some (.iload 11, 2, [11], 0, 0), none, some (.invokevirtual 424, 3, [0, 224, 2, 0], 0, 0), none, none, some (.istore 12, 2, [12], 0, 0), none, some (.iload 12, 2, [12], 0, 0), none, some (.ifCond .eq 20, 3, [167], 0, 0), none, none, some (.iload 12, 2, [12], 0, 0), none, some (.iload 6, 2, [6], 0, 0), none, some (.if_icmp .ne 13, 3, [167], 0, 0), none, none, some (.iinc 9 1, 3, [9], 1, 0), none, none],
  [some (.iload 10, 2, [10], 0, 0), none, some (.istore 8, 2, [8], 0, 0), none, some (.goto 74, 3, [238], 0, 0), none, none, some (.iload 6, 2, [6], 0, 0), none, some (.ifCond .eq 54, 3, [223], 0, 0), none, none, some (.iload 9, 2, [9], 0, 0), none, some (.iload_n 2, 1, [2], 0, 0), some (.if_icmp .lt 48, 3, [223], 0, 0), none, none, some (.iload 5, 2, [5], 0, 0), none, some (.ifCond .ne 40, 3, [220], 0, 0), none, none, some (.aload_n 0, 1, [0], 0, 0), some (.iload 4, 2, [4], 0, 0), none, some (.ifCond .ne 8, 3, [194], 0, 0), none, none, some (.iload 7, 2, [7], 0, 0), none, some (.goto 25, 3, [216], 0, 0)],
  [none, none, some (.iload 4, 2, [4], 0, 0), none, some (.iconst 1, 1, [], 1, 0), some (.if_icmp .ne 8, 3, [205], 0, 0), none, none, some (.iload 8, 2, [8], 0, 0), none, some (.goto 14, 3, [216], 0, 0), none, none, some (.iload 6, 2, [6], 0, 0), none, some (.iconst 1, 1, [], 1, 0), some (.if_icmp .ne 7, 3, [215], 0, 0), none, none, some (.iconst 1, 1, [], 1, 0), some (.goto 4, 3, [216], 0, 0), none, none, some (.iconst 0, 1, [], 0, 0), some (.invokevirtual 180, 3, [0, 169, 2, 0], 0, 0), none, none, some (.ireturn, 1, [], 0, 0), some (.iinc 5 (-1), 3, [5], (-1), 0), none, none, some (.iload 12, 2, [12], 0, 0)],
  [none, some (.istore 6, 2, [6], 0, 0), none, some (.iload 10, 2, [10], 0, 0), none, some (.istore 7, 2, [7], 0, 0), none, some (.iload 10, 2, [10], 0, 0), none, some (.istore 8, 2, [8], 0, 0), none, some (.iconst 1, 1, [], 1, 0), some (.istore 9, 2, [9], 0, 0), none, some (.iinc 10 1, 3, [10], 1, 0), none, none, some (.goto (-157), 3, [84], 0, 0), none, none, some (.aload_n 0, 1, [0], 0, 0), some (.bipush 6, 2, [], 6, 0), none, some (.invokevirtual 342, 3, [0, 168, 2, 0], 0, 0), none, none, some (.ireturn, 1, [], 0, 0)]]
def F_M_slow_223 (N : Nat) (bk : (Int32 → Int32 → Int32 → Int32 → Int32 → Int32 → Int32 → Int32 → Int32 → MH → Option (Int32 × MH))) (a1 : Int32) (a2 : Int32) (a4 : Int32) (a5 : Int32) (a10 : Int32) (a12 : Int32) (h : MH) : Option (Int32 × MH) :=
  let v21 : Int32 := a10 + 1
  bk a1 a2 a4 a5 a12 a10 a10 1 v21 h
def F_M_slow_167 (N : Nat) (bk : (Int32 → Int32 → Int32 → Int32 → Int32 → Int32 → Int32 → Int32 → Int32 → MH → Option (Int32 × MH))) (a1 : Int32) (a2 : Int32) (a4 : Int32) (a5 : Int32) (a6 : Int32) (a7 : Int32) (a8 : Int32) (a9 : Int32) (a10 : Int32) (a12 : Int32) (h : MH) : Option (Int32 × MH) :=
  if a6 = 0 then
  (F_M_slow_223 N bk a1 a2 a4 a5 a10 a12 h)
  else
  (if a9 < a2 then
  (F_M_slow_223 N bk a1 a2 a4 a5 a10 a12 h)
  else
  (if a5 = 0 then
  (if a4 = 0 then
  ((f_M_gives N a7 h).bind (fun x16 =>
  some (x16.1, x16.2)))
  else
  (if a4 = 1 then
  ((f_M_gives N a8 h).bind (fun x17 =>
  some (x17.1, x17.2)))
  else
  (if a6 = 1 then
  ((f_M_gives N 1 h).bind (fun x18 =>
  some (x18.1, x18.2)))
  else
  ((f_M_gives N 0 h).bind (fun x19 =>
  some (x19.1, x19.2))))))
  else
  (let v20 : Int32 := a5 + (-1)
  F_M_slow_223 N bk a1 a2 a4 v20 a10 a12 h)))
def F_M_slow_143 (N : Nat) (bk : (Int32 → Int32 → Int32 → Int32 → Int32 → Int32 → Int32 → Int32 → Int32 → MH → Option (Int32 × MH))) (a1 : Int32) (a2 : Int32) (a4 : Int32) (a5 : Int32) (a6 : Int32) (a7 : Int32) (a8 : Int32) (a9 : Int32) (a10 : Int32) (as0 : Int32) (h : MH) : Option (Int32 × MH) :=
  if as0 = 0 then
  (F_M_slow_167 N bk a1 a2 a4 a5 a6 a7 a8 a9 a10 as0 h)
  else
  (if as0 = a6 then
  (let v14 : Int32 := a9 + 1
  let v15 : Int32 := a10 + 1
  bk a1 a2 a4 a5 a6 a7 a10 v14 v15 h)
  else
  (F_M_slow_167 N bk a1 a2 a4 a5 a6 a7 a8 a9 a10 as0 h))
def F_M_slow_127 (N : Nat) (bk : (Int32 → Int32 → Int32 → Int32 → Int32 → Int32 → Int32 → Int32 → Int32 → MH → Option (Int32 × MH))) (a1 : Int32) (a2 : Int32) (a4 : Int32) (a5 : Int32) (a6 : Int32) (a7 : Int32) (a8 : Int32) (a9 : Int32) (a10 : Int32) (a11 : Int32) (h : MH) : Option (Int32 × MH) :=
  if a11 = ((-1)) then
  (F_M_slow_143 N bk a1 a2 a4 a5 a6 a7 a8 a9 a10 0 h)
  else
  ((f_M_sideOf N a11 h).bind (fun x13 =>
  F_M_slow_143 N bk a1 a2 a4 a5 a6 a7 a8 a9 a10 x13.1 x13.2))
def F_M_slow_109 (N : Nat) (bk : (Int32 → Int32 → Int32 → Int32 → Int32 → Int32 → Int32 → Int32 → Int32 → MH → Option (Int32 × MH))) (a1 : Int32) (a2 : Int32) (a4 : Int32) (a5 : Int32) (a6 : Int32) (a7 : Int32) (a8 : Int32) (a9 : Int32) (a10 : Int32) (as0 : Int32) (h : MH) : Option (Int32 × MH) :=
  if as0 = ((-1)) then
  (if 20 ≤ a10 then
  (F_M_slow_127 N bk a1 a2 a4 a5 a6 a7 a8 a9 a10 as0 h)
  else
  (let v12 : Int32 := a10 + 1
  bk a1 a2 a4 a5 a6 a7 a8 a9 v12 h))
  else
  (F_M_slow_127 N bk a1 a2 a4 a5 a6 a7 a8 a9 a10 as0 h)
def F_M_slow_84 (N : Nat) (bk : (Int32 → Int32 → Int32 → Int32 → Int32 → Int32 → Int32 → Int32 → Int32 → MH → Option (Int32 × MH))) (a1 : Int32) (a2 : Int32) (a4 : Int32) (a5 : Int32) (a6 : Int32) (a7 : Int32) (a8 : Int32) (a9 : Int32) (a10 : Int32) (h : MH) : Option (Int32 × MH) :=
  if 20 < a10 then
  ((f_M_refuse N 6 h).bind (fun x10 =>
  some (x10.1, x10.2)))
  else
  (if a10 = 20 then
  (F_M_slow_109 N bk a1 a2 a4 a5 a6 a7 a8 a9 a10 ((-1)) h)
  else
  ((f_M_rowOf N a1 a10 h).bind (fun x11 =>
  F_M_slow_109 N bk a1 a2 a4 a5 a6 a7 a8 a9 a10 x11.1 x11.2)))
def F_M_slow_0 (N : Nat) (bk : (Int32 → Int32 → Int32 → Int32 → Int32 → Int32 → Int32 → Int32 → Int32 → MH → Option (Int32 × MH))) (a1 : Int32) (a2 : Int32) (a3 : Int32) (a4 : Int32) (h : MH) : Option (Int32 × MH) :=
  (f_M_isMark N a1 h).bind (fun x1 =>
  if x1.1 = 0 then
  ((f_M_refuse N 1 x1.2).bind (fun x2 =>
  some (x2.1, x2.2)))
  else
  (if a2 < 2 then
  ((f_M_refuse N 1 x1.2).bind (fun x3 =>
  some (x3.1, x3.2)))
  else
  (if 10 < a2 then
  ((f_M_refuse N 1 x1.2).bind (fun x4 =>
  some (x4.1, x4.2)))
  else
  (if a3 < 0 then
  ((f_M_refuse N 1 x1.2).bind (fun x5 =>
  some (x5.1, x5.2)))
  else
  (if a4 < 0 then
  ((f_M_refuse N 1 x1.2).bind (fun x6 =>
  some (x6.1, x6.2)))
  else
  (if a4 ≤ 2 then
  ((f_M_fit N a1 0 19 x1.2).bind (fun x7 =>
  if 0 ≤ (lg_cmp (gJ x7 68 60) 2) then
  (F_M_slow_84 N bk a1 a2 a4 a3 0 0 0 0 0 x7)
  else
  ((f_M_refuse N 6 x7).bind (fun x8 =>
  some (x8.1, x8.2)))))
  else
  ((f_M_refuse N 1 x1.2).bind (fun x9 =>
  some (x9.1, x9.2)))))))))
def L_M_slow (N : Nat) : Nat → (Int32 → Int32 → Int32 → Int32 → Int32 → Int32 → Int32 → Int32 → Int32 → MH → Option (Int32 × MH))
  | 0 => fun _ _ _ _ _ _ _ _ _ _ => none
  | n + 1 => F_M_slow_84 N (L_M_slow N n)
def f_M_slow (N : Nat) (a1 : Int32) (a2 : Int32) (a3 : Int32) (a4 : Int32) (h : MH) : Option (Int32 × MH) := F_M_slow_0 N (L_M_slow N N) a1 a2 a3 a4 h
def C_M_slow (N : Nat) : MC := (KDL, false, (fun _ => 0), jsB, (fun j => match Nat.beq j 168 with
    | true => w_M_refuse (f_M_refuse N)
    | false => match Nat.beq j 169 with
    | true => w_M_gives (f_M_gives N)
    | false => match Nat.beq j 205 with
    | true => w_M_isMark (f_M_isMark N)
    | false => match Nat.beq j 215 with
    | true => w_M_rowOf (f_M_rowOf N)
    | false => match Nat.beq j 224 with
    | true => w_M_sideOf (f_M_sideOf N)
    | false => fun _ _ => none), (fun _ _ _ => none), (fun _ _ _ => none), (fun j => match Nat.beq j 218 with
    | true => w_M_fit (f_M_fit N)
    | false => fun _ _ => none))
def D_M_slow (N : Nat) (n pc : Nat) (lv : ML) (st : List MV) (h : MH) : Option (Int32 × MH) :=
  match Nat.beq pc 0 with
  | true => (match lk lv 0, lk lv 1, lk lv 2, lk lv 3, lk lv 4, st with
    | some (.inr (.inr (0, 12, 68))), some (.inl a1), some (.inl a2), some (.inl a3), some (.inl a4), [] => F_M_slow_0 N (L_M_slow N n) a1 a2 a3 a4 h
    | _, _, _, _, _, _ => none)
  | false => match Nat.beq pc 84 with
  | true => (match lk lv 0, lk lv 1, lk lv 2, lk lv 4, lk lv 5, lk lv 6, lk lv 7, lk lv 8, lk lv 9, lk lv 10, st with
    | some (.inr (.inr (0, 12, 68))), some (.inl a1), some (.inl a2), some (.inl a4), some (.inl a5), some (.inl a6), some (.inl a7), some (.inl a8), some (.inl a9), some (.inl a10), [] => F_M_slow_84 N (L_M_slow N n) a1 a2 a4 a5 a6 a7 a8 a9 a10 h
    | _, _, _, _, _, _, _, _, _, _, _ => none)
  | false => match Nat.beq pc 109 with
  | true => (match lk lv 0, lk lv 1, lk lv 2, lk lv 4, lk lv 5, lk lv 6, lk lv 7, lk lv 8, lk lv 9, lk lv 10, st with
    | some (.inr (.inr (0, 12, 68))), some (.inl a1), some (.inl a2), some (.inl a4), some (.inl a5), some (.inl a6), some (.inl a7), some (.inl a8), some (.inl a9), some (.inl a10), [.inl as0] => F_M_slow_109 N (L_M_slow N n) a1 a2 a4 a5 a6 a7 a8 a9 a10 as0 h
    | _, _, _, _, _, _, _, _, _, _, _ => none)
  | false => match Nat.beq pc 127 with
  | true => (match lk lv 0, lk lv 1, lk lv 2, lk lv 4, lk lv 5, lk lv 6, lk lv 7, lk lv 8, lk lv 9, lk lv 10, lk lv 11, st with
    | some (.inr (.inr (0, 12, 68))), some (.inl a1), some (.inl a2), some (.inl a4), some (.inl a5), some (.inl a6), some (.inl a7), some (.inl a8), some (.inl a9), some (.inl a10), some (.inl a11), [] => F_M_slow_127 N (L_M_slow N n) a1 a2 a4 a5 a6 a7 a8 a9 a10 a11 h
    | _, _, _, _, _, _, _, _, _, _, _, _ => none)
  | false => match Nat.beq pc 143 with
  | true => (match lk lv 0, lk lv 1, lk lv 2, lk lv 4, lk lv 5, lk lv 6, lk lv 7, lk lv 8, lk lv 9, lk lv 10, st with
    | some (.inr (.inr (0, 12, 68))), some (.inl a1), some (.inl a2), some (.inl a4), some (.inl a5), some (.inl a6), some (.inl a7), some (.inl a8), some (.inl a9), some (.inl a10), [.inl as0] => F_M_slow_143 N (L_M_slow N n) a1 a2 a4 a5 a6 a7 a8 a9 a10 as0 h
    | _, _, _, _, _, _, _, _, _, _, _ => none)
  | false => match Nat.beq pc 167 with
  | true => (match lk lv 0, lk lv 1, lk lv 2, lk lv 4, lk lv 5, lk lv 6, lk lv 7, lk lv 8, lk lv 9, lk lv 10, lk lv 12, st with
    | some (.inr (.inr (0, 12, 68))), some (.inl a1), some (.inl a2), some (.inl a4), some (.inl a5), some (.inl a6), some (.inl a7), some (.inl a8), some (.inl a9), some (.inl a10), some (.inl a12), [] => F_M_slow_167 N (L_M_slow N n) a1 a2 a4 a5 a6 a7 a8 a9 a10 a12 h
    | _, _, _, _, _, _, _, _, _, _, _, _ => none)
  | false => match Nat.beq pc 223 with
  | true => (match lk lv 0, lk lv 1, lk lv 2, lk lv 4, lk lv 5, lk lv 10, lk lv 12, st with
    | some (.inr (.inr (0, 12, 68))), some (.inl a1), some (.inl a2), some (.inl a4), some (.inl a5), some (.inl a10), some (.inl a12), [] => F_M_slow_223 N (L_M_slow N n) a1 a2 a4 a5 a10 a12 h
    | _, _, _, _, _, _, _, _ => none)
  | false => none
def B_M_slow (N : Nat) (n pc : Nat) (lv : ML) (st : List MV) (h : MH) : Option (Int32 × MH) :=
  match Nat.beq pc 84 with
  | true => (match lk lv 0, lk lv 1, lk lv 2, lk lv 4, lk lv 5, lk lv 6, lk lv 7, lk lv 8, lk lv 9, lk lv 10, st with
    | some (.inr (.inr (0, 12, 68))), some (.inl a1), some (.inl a2), some (.inl a4), some (.inl a5), some (.inl a6), some (.inl a7), some (.inl a8), some (.inl a9), some (.inl a10), [] => ((L_M_slow N n)) a1 a2 a4 a5 a6 a7 a8 a9 a10 h
    | _, _, _, _, _, _, _, _, _, _, _ => none)
  | false => none
set_option maxRecDepth 1000000 in
theorem E_M_slow_0 (N : Nat) (n : Nat) (a1 : Int32) (a2 : Int32) (a3 : Int32) (a4 : Int32) (h : MH) : seg (C_M_slow N) 13 0 rI T_M_slow [0, 84, 109, 127, 143, 167, 223] (fun q lv st h => match Nat.ble 1 q with
    | true => D_M_slow N n q lv st h
    | false => B_M_slow N n q lv st h) 400 true 0 [(0, .inr (.inr (0, 12, 68))), (1, .inl a1), (2, .inl a2), (3, .inl a3), (4, .inl a4)] [] h = F_M_slow_0 N (L_M_slow N n) a1 a2 a3 a4 h := (rfl)
set_option maxRecDepth 1000000 in
theorem E_M_slow_84 (N : Nat) (n : Nat) (a1 : Int32) (a2 : Int32) (a4 : Int32) (a5 : Int32) (a6 : Int32) (a7 : Int32) (a8 : Int32) (a9 : Int32) (a10 : Int32) (h : MH) : seg (C_M_slow N) 13 0 rI T_M_slow [0, 84, 109, 127, 143, 167, 223] (fun q lv st h => match Nat.ble 85 q with
    | true => D_M_slow N n q lv st h
    | false => B_M_slow N n q lv st h) 400 true 84 [(0, .inr (.inr (0, 12, 68))), (1, .inl a1), (2, .inl a2), (4, .inl a4), (5, .inl a5), (6, .inl a6), (7, .inl a7), (8, .inl a8), (9, .inl a9), (10, .inl a10)] [] h = F_M_slow_84 N (L_M_slow N n) a1 a2 a4 a5 a6 a7 a8 a9 a10 h := (rfl)
set_option maxRecDepth 1000000 in
theorem E_M_slow_109 (N : Nat) (n : Nat) (a1 : Int32) (a2 : Int32) (a4 : Int32) (a5 : Int32) (a6 : Int32) (a7 : Int32) (a8 : Int32) (a9 : Int32) (a10 : Int32) (as0 : Int32) (h : MH) : seg (C_M_slow N) 13 0 rI T_M_slow [0, 84, 109, 127, 143, 167, 223] (fun q lv st h => match Nat.ble 110 q with
    | true => D_M_slow N n q lv st h
    | false => B_M_slow N n q lv st h) 400 true 109 [(0, .inr (.inr (0, 12, 68))), (1, .inl a1), (2, .inl a2), (4, .inl a4), (5, .inl a5), (6, .inl a6), (7, .inl a7), (8, .inl a8), (9, .inl a9), (10, .inl a10)] [.inl as0] h = F_M_slow_109 N (L_M_slow N n) a1 a2 a4 a5 a6 a7 a8 a9 a10 as0 h := (rfl)
set_option maxRecDepth 1000000 in
theorem E_M_slow_127 (N : Nat) (n : Nat) (a1 : Int32) (a2 : Int32) (a4 : Int32) (a5 : Int32) (a6 : Int32) (a7 : Int32) (a8 : Int32) (a9 : Int32) (a10 : Int32) (a11 : Int32) (h : MH) : seg (C_M_slow N) 13 0 rI T_M_slow [0, 84, 109, 127, 143, 167, 223] (fun q lv st h => match Nat.ble 128 q with
    | true => D_M_slow N n q lv st h
    | false => B_M_slow N n q lv st h) 400 true 127 [(0, .inr (.inr (0, 12, 68))), (1, .inl a1), (2, .inl a2), (4, .inl a4), (5, .inl a5), (6, .inl a6), (7, .inl a7), (8, .inl a8), (9, .inl a9), (10, .inl a10), (11, .inl a11)] [] h = F_M_slow_127 N (L_M_slow N n) a1 a2 a4 a5 a6 a7 a8 a9 a10 a11 h := (rfl)
set_option maxRecDepth 1000000 in
theorem E_M_slow_143 (N : Nat) (n : Nat) (a1 : Int32) (a2 : Int32) (a4 : Int32) (a5 : Int32) (a6 : Int32) (a7 : Int32) (a8 : Int32) (a9 : Int32) (a10 : Int32) (as0 : Int32) (h : MH) : seg (C_M_slow N) 13 0 rI T_M_slow [0, 84, 109, 127, 143, 167, 223] (fun q lv st h => match Nat.ble 144 q with
    | true => D_M_slow N n q lv st h
    | false => B_M_slow N n q lv st h) 400 true 143 [(0, .inr (.inr (0, 12, 68))), (1, .inl a1), (2, .inl a2), (4, .inl a4), (5, .inl a5), (6, .inl a6), (7, .inl a7), (8, .inl a8), (9, .inl a9), (10, .inl a10)] [.inl as0] h = F_M_slow_143 N (L_M_slow N n) a1 a2 a4 a5 a6 a7 a8 a9 a10 as0 h := (rfl)
set_option maxRecDepth 1000000 in
theorem E_M_slow_167 (N : Nat) (n : Nat) (a1 : Int32) (a2 : Int32) (a4 : Int32) (a5 : Int32) (a6 : Int32) (a7 : Int32) (a8 : Int32) (a9 : Int32) (a10 : Int32) (a12 : Int32) (h : MH) : seg (C_M_slow N) 13 0 rI T_M_slow [0, 84, 109, 127, 143, 167, 223] (fun q lv st h => match Nat.ble 168 q with
    | true => D_M_slow N n q lv st h
    | false => B_M_slow N n q lv st h) 400 true 167 [(0, .inr (.inr (0, 12, 68))), (1, .inl a1), (2, .inl a2), (4, .inl a4), (5, .inl a5), (6, .inl a6), (7, .inl a7), (8, .inl a8), (9, .inl a9), (10, .inl a10), (12, .inl a12)] [] h = F_M_slow_167 N (L_M_slow N n) a1 a2 a4 a5 a6 a7 a8 a9 a10 a12 h := (rfl)
set_option maxRecDepth 1000000 in
theorem E_M_slow_223 (N : Nat) (n : Nat) (a1 : Int32) (a2 : Int32) (a4 : Int32) (a5 : Int32) (a10 : Int32) (a12 : Int32) (h : MH) : seg (C_M_slow N) 13 0 rI T_M_slow [0, 84, 109, 127, 143, 167, 223] (fun q lv st h => match Nat.ble 224 q with
    | true => D_M_slow N n q lv st h
    | false => B_M_slow N n q lv st h) 400 true 223 [(0, .inr (.inr (0, 12, 68))), (1, .inl a1), (2, .inl a2), (4, .inl a4), (5, .inl a5), (10, .inl a10), (12, .inl a12)] [] h = F_M_slow_223 N (L_M_slow N n) a1 a2 a4 a5 a10 a12 h := (rfl)
def T_M_smooth : List (List (Option RW)) := [
  [some (.iload_n 1, 1, [1], 0, 0), some (.ifCond .lt 9, 3, [10], 0, 0), none, none, some (.iload_n 1, 1, [1], 0, 0), some (.bipush 9, 2, [], 9, 0), none, some (.if_icmp .le 9, 3, [16], 0, 0), none, none, some (.aload_n 0, 1, [0], 0, 0), some (.iconst 1, 1, [], 1, 0), some (.invokevirtual 188, 3, [0, 167, 2, 0], 0, 0), none, none, some (.ireturn, 1, [], 0, 0), some (.aload_n 0, 1, [0], 0, 0), some (.iload_n 1, 1, [1], 0, 0), some (.putfield 129, 3, [12, 66, 0], 0, 0), none, none, some (.aload_n 0, 1, [0], 0, 0), some (.iconst 0, 1, [], 0, 0), some (.invokevirtual 188, 3, [0, 167, 2, 0], 0, 0), none, none, some (.ireturn, 1, [], 0, 0)]]
def f_M_smooth (N : Nat) (a1 : Int32) (h : MH) : Option (Int32 × MH) :=
  if a1 < 0 then
  ((f_M_is N 1 h).bind (fun x1 =>
  match narOK 1 x1.1 with
  | true => some (x1.1, x1.2)
  | false => none))
  else
  (if a1 ≤ 9 then
  (let h2 : MH := sI h 68 66 a1
  (f_M_is N 0 h2).bind (fun x3 =>
  match narOK 1 x3.1 with
  | true => some (x3.1, x3.2)
  | false => none))
  else
  ((f_M_is N 1 h).bind (fun x4 =>
  match narOK 1 x4.1 with
  | true => some (x4.1, x4.2)
  | false => none)))
def C_M_smooth (N : Nat) : MC := (KDL, false, (fun _ => 0), jsB, (fun j => match Nat.beq j 167 with
    | true => w_M_is (f_M_is N)
    | false => fun _ _ => none), (fun _ _ _ => none), (fun _ _ _ => none), (fun _ _ _ => none))
def D_M_smooth (N : Nat) (n pc : Nat) (lv : ML) (st : List MV) (h : MH) : Option (Int32 × MH) :=
  match Nat.beq pc 0 with
  | true => (match lk lv 0, lk lv 1, st with
    | some (.inr (.inr (0, 12, 68))), some (.inl a1), [] => f_M_smooth N a1 h
    | _, _, _ => none)
  | false => none
set_option maxRecDepth 1000000 in
theorem E_M_smooth_0 (N : Nat) (n : Nat) (a1 : Int32) (h : MH) : seg (C_M_smooth N) 2 1 rI T_M_smooth [0] (fun q lv st h => match Nat.ble 1 q with
    | true => D_M_smooth N n q lv st h
    | false => none) 400 true 0 [(0, .inr (.inr (0, 12, 68))), (1, .inl a1)] [] h = f_M_smooth N a1 h := (rfl)
def T_M_see : List (List (Option RW)) := [
  [some (.aload_n 0, 1, [0], 0, 0), some (.iconst 0, 1, [], 0, 0), some (.putfield 427, 3, [12, 67, 0], 0, 0), none, none, some (.iconst 0, 1, [], 0, 0), some (.istore_n 3, 1, [3], 0, 0), some (.iload_n 3, 1, [3], 0, 0), some (.aload_n 0, 1, [0], 0, 0), some (.getfield 351, 3, [12, 33, 0], 0, 0), none, none, some (.if_icmp .ge 115, 3, [127], 0, 0), none, none, some (.aload_n 0, 1, [0], 0, 0), some (.iload_n 3, 1, [3], 0, 0), some (.iload_n 1, 1, [1], 0, 0), some (.invokevirtual 381, 3, [0, 215, 3, 0], 0, 0), none, none, some (.istore 4, 2, [4], 0, 0), none, some (.aload_n 0, 1, [0], 0, 0), some (.iload_n 3, 1, [3], 0, 0), some (.iload_n 2, 1, [2], 0, 0), some (.invokevirtual 381, 3, [0, 215, 3, 0], 0, 0), none, none, some (.istore 5, 2, [5], 0, 0), none, some (.iload 4, 2, [4], 0, 0)],
  [none, some (.iconst (-1), 1, [], (-1), 0), some (.if_icmp .eq 87, 3, [121], 0, 0), none, none, some (.iload 5, 2, [5], 0, 0), none, some (.iconst (-1), 1, [], (-1), 0), some (.if_icmp .ne 6, 3, [46], 0, 0), none, none, some (.goto 78, 3, [121], 0, 0), none, none, some (.aload_n 0, 1, [0], 0, 0), some (.dup, 1, [], 0, 0), some (.getfield 427, 3, [12, 67, 0], 0, 0), none, none, some (.iconst 1, 1, [], 1, 0), some (.iload_n 3, 1, [3], 0, 0), some (.ishl, 1, [], 0, 0), some (.ior, 1, [], 0, 0), some (.putfield 427, 3, [12, 67, 0], 0, 0), none, none, some (.aload_n 0, 1, [0], 0, 0), some (.iload 5, 2, [5], 0, 0), none, some (.invokevirtual 384, 3, [0, 216, 2, 0], 0, 0), none, none],
  [some (.aload_n 0, 1, [0], 0, 0), some (.iload 4, 2, [4], 0, 0), none, some (.invokevirtual 384, 3, [0, 216, 2, 0], 0, 0), none, none, some (.isub, 1, [], 0, 0), some (.istore 6, 2, [6], 0, 0), none, some (.aload_n 0, 1, [0], 0, 0), some (.getfield 135, 3, [12, 69, 2, 1, 8, 36], 0, 0), none, none, some (.iload_n 3, 1, [3], 0, 0), some (.iload 6, 2, [6], 0, 0), none, some (.aload_n 0, 1, [0], 0, 0), some (.getfield 114, 3, [12, 55, 2, 1, 160, 30], 0, 0), none, none, some (.iload 4, 2, [4], 0, 0), none, some (.iaload, 1, [], 0, 0), some (.isub, 1, [], 0, 0), some (.aload_n 0, 1, [0], 0, 0), some (.getfield 114, 3, [12, 55, 2, 1, 160, 30], 0, 0), none, none, some (.iload 5, 2, [5], 0, 0), none, some (.iaload, 1, [], 0, 0), some (.isub, 1, [], 0, 0)],
  [some (.iastore, 1, [], 0, 0), some (.aload_n 0, 1, [0], 0, 0), some (.getfield 138, 3, [12, 70, 2, 1, 8, 37], 0, 0), none, none, some (.iload_n 3, 1, [3], 0, 0), some (.iload 6, 2, [6], 0, 0), none, some (.aload_n 0, 1, [0], 0, 0), some (.getfield 114, 3, [12, 55, 2, 1, 160, 30], 0, 0), none, none, some (.iload 4, 2, [4], 0, 0), none, some (.iaload, 1, [], 0, 0), some (.iadd, 1, [], 0, 0), some (.aload_n 0, 1, [0], 0, 0), some (.getfield 114, 3, [12, 55, 2, 1, 160, 30], 0, 0), none, none, some (.iload 5, 2, [5], 0, 0), none, some (.iaload, 1, [], 0, 0), some (.iadd, 1, [], 0, 0), some (.iastore, 1, [], 0, 0), some (.iinc 3 1, 3, [3], 1, 0), none, none, some (.goto (-117), 3, [7], 0, 0), none, none, some (.return_, 1, [], 0, 0)]]
def F_M_see_7 (N : Nat) (bk : (Int32 → Int32 → Int32 → MH → Option (MH))) (a1 : Int32) (a2 : Int32) (a3 : Int32) (h : MH) : Option (MH) :=
  if (gI h 68 33) ≤ a3 then
  (some h)
  else
  ((f_M_rowOf N a3 a1 h).bind (fun x2 =>
  (f_M_rowOf N a3 a2 x2.2).bind (fun x3 =>
  if x2.1 = ((-1)) then
  (let v4 : Int32 := a3 + 1
  bk a1 a2 v4 x3.2)
  else
  (if x3.1 = ((-1)) then
  (let v5 : Int32 := a3 + 1
  bk a1 a2 v5 x3.2)
  else
  (let h6 : MH := sI x3.2 68 67 ((gI x3.2 68 67) ||| ((1 : Int32) <<< (a3 &&& 31)))
  (f_M_valueOf N x3.1 h6).bind (fun x7 =>
  (f_M_valueOf N x2.1 x7.2).bind (fun x8 =>
  let v9 : Int32 := x7.1 - x8.1
  if inB x2.1 160 = true then
  (if inB x3.1 160 = true then
  (if inB a3 8 = true then
  (let h10 : MH := sI x8.2 104 (iN a3) ((v9 - (gI x8.2 98 (iN x2.1))) - (gI x8.2 98 (iN x3.1)))
  if inB x2.1 160 = true then
  (if inB x3.1 160 = true then
  (if inB a3 8 = true then
  (let h11 : MH := sI h10 105 (iN a3) ((v9 + (gI h10 98 (iN x2.1))) + (gI h10 98 (iN x3.1)))
  let v12 : Int32 := a3 + 1
  bk a1 a2 v12 h11)
  else none)
  else none)
  else none)
  else none)
  else none)
  else none)))))))
def F_M_see_0 (N : Nat) (bk : (Int32 → Int32 → Int32 → MH → Option (MH))) (a1 : Int32) (a2 : Int32) (h : MH) : Option (MH) :=
  let h1 : MH := sI h 68 67 0
  F_M_see_7 N bk a1 a2 0 h1
def L_M_see (N : Nat) : Nat → (Int32 → Int32 → Int32 → MH → Option (MH))
  | 0 => fun _ _ _ _ => none
  | n + 1 => F_M_see_7 N (L_M_see N n)
def f_M_see (N : Nat) (a1 : Int32) (a2 : Int32) (h : MH) : Option (MH) := F_M_see_0 N (L_M_see N N) a1 a2 h
def C_M_see (N : Nat) : MC := (KDL, false, (fun _ => 0), jsB, (fun j => match Nat.beq j 215 with
    | true => w_M_rowOf (f_M_rowOf N)
    | false => match Nat.beq j 216 with
    | true => w_M_valueOf (f_M_valueOf N)
    | false => fun _ _ => none), (fun _ _ _ => none), (fun _ _ _ => none), (fun _ _ _ => none))
def D_M_see (N : Nat) (n pc : Nat) (lv : ML) (st : List MV) (h : MH) : Option (MH) :=
  match Nat.beq pc 0 with
  | true => (match lk lv 0, lk lv 1, lk lv 2, st with
    | some (.inr (.inr (0, 12, 68))), some (.inl a1), some (.inl a2), [] => F_M_see_0 N (L_M_see N n) a1 a2 h
    | _, _, _, _ => none)
  | false => match Nat.beq pc 7 with
  | true => (match lk lv 0, lk lv 1, lk lv 2, lk lv 3, st with
    | some (.inr (.inr (0, 12, 68))), some (.inl a1), some (.inl a2), some (.inl a3), [] => F_M_see_7 N (L_M_see N n) a1 a2 a3 h
    | _, _, _, _, _ => none)
  | false => none
def B_M_see (N : Nat) (n pc : Nat) (lv : ML) (st : List MV) (h : MH) : Option (MH) :=
  match Nat.beq pc 7 with
  | true => (match lk lv 0, lk lv 1, lk lv 2, lk lv 3, st with
    | some (.inr (.inr (0, 12, 68))), some (.inl a1), some (.inl a2), some (.inl a3), [] => ((L_M_see N n)) a1 a2 a3 h
    | _, _, _, _, _ => none)
  | false => none
set_option maxRecDepth 1000000 in
theorem E_M_see_0 (N : Nat) (n : Nat) (a1 : Int32) (a2 : Int32) (h : MH) : seg (C_M_see N) 7 0 rV T_M_see [0, 7] (fun q lv st h => match Nat.ble 1 q with
    | true => D_M_see N n q lv st h
    | false => B_M_see N n q lv st h) 400 true 0 [(0, .inr (.inr (0, 12, 68))), (1, .inl a1), (2, .inl a2)] [] h = F_M_see_0 N (L_M_see N n) a1 a2 h := (rfl)
set_option maxRecDepth 1000000 in
theorem E_M_see_7 (N : Nat) (n : Nat) (a1 : Int32) (a2 : Int32) (a3 : Int32) (h : MH) : seg (C_M_see N) 7 0 rV T_M_see [0, 7] (fun q lv st h => match Nat.ble 8 q with
    | true => D_M_see N n q lv st h
    | false => B_M_see N n q lv st h) 400 true 7 [(0, .inr (.inr (0, 12, 68))), (1, .inl a1), (2, .inl a2), (3, .inl a3)] [] h = F_M_see_7 N (L_M_see N n) a1 a2 a3 h := (rfl)
def T_M_rowsOfSlips : List (List (Option RW)) := [
  [some (.iconst 1, 1, [], 1, 0), some (.istore_n 1, 1, [1], 0, 0), some (.iconst 0, 1, [], 0, 0), some (.istore_n 2, 1, [2], 0, 0), some (.iload_n 2, 1, [2], 0, 0), some (.aload_n 0, 1, [0], 0, 0), some (.getfield 348, 3, [12, 32, 0], 0, 0), none, none, some (.if_icmp .ge 14, 3, [23], 0, 0), none, none, some (.iload_n 1, 1, [1], 0, 0), some (.bipush 10, 2, [], 10, 0), none, some (.imul, 1, [], 0, 0), some (.istore_n 1, 1, [1], 0, 0), some (.iinc 2 1, 3, [2], 1, 0), none, none, some (.goto (-16), 3, [4], 0, 0), none, none, some (.iload_n 1, 1, [1], 0, 0), some (.ireturn, 1, [], 0, 0)]]
def F_M_rowsOfSlips_4 (N : Nat) (bk : (Int32 → Int32 → MH → Option (Int32 × MH))) (a1 : Int32) (a2 : Int32) (h : MH) : Option (Int32 × MH) :=
  if (gI h 68 32) ≤ a2 then
  (some (a1, h))
  else
  (let v1 : Int32 := a1 * 10
  let v2 : Int32 := a2 + 1
  bk v1 v2 h)
def F_M_rowsOfSlips_0 (N : Nat) (bk : (Int32 → Int32 → MH → Option (Int32 × MH))) (h : MH) : Option (Int32 × MH) :=
  F_M_rowsOfSlips_4 N bk 1 0 h
def L_M_rowsOfSlips (N : Nat) : Nat → (Int32 → Int32 → MH → Option (Int32 × MH))
  | 0 => fun _ _ _ => none
  | n + 1 => F_M_rowsOfSlips_4 N (L_M_rowsOfSlips N n)
def f_M_rowsOfSlips (N : Nat) (h : MH) : Option (Int32 × MH) := F_M_rowsOfSlips_0 N (L_M_rowsOfSlips N N) h
def C_M_rowsOfSlips (N : Nat) : MC := (KDL, false, (fun _ => 0), jsB, (fun _ _ _ => none), (fun _ _ _ => none), (fun _ _ _ => none), (fun _ _ _ => none))
def D_M_rowsOfSlips (N : Nat) (n pc : Nat) (lv : ML) (st : List MV) (h : MH) : Option (Int32 × MH) :=
  match Nat.beq pc 0 with
  | true => (match lk lv 0, st with
    | some (.inr (.inr (0, 12, 68))), [] => F_M_rowsOfSlips_0 N (L_M_rowsOfSlips N n) h
    | _, _ => none)
  | false => match Nat.beq pc 4 with
  | true => (match lk lv 0, lk lv 1, lk lv 2, st with
    | some (.inr (.inr (0, 12, 68))), some (.inl a1), some (.inl a2), [] => F_M_rowsOfSlips_4 N (L_M_rowsOfSlips N n) a1 a2 h
    | _, _, _, _ => none)
  | false => none
def B_M_rowsOfSlips (N : Nat) (n pc : Nat) (lv : ML) (st : List MV) (h : MH) : Option (Int32 × MH) :=
  match Nat.beq pc 4 with
  | true => (match lk lv 0, lk lv 1, lk lv 2, st with
    | some (.inr (.inr (0, 12, 68))), some (.inl a1), some (.inl a2), [] => ((L_M_rowsOfSlips N n)) a1 a2 h
    | _, _, _, _ => none)
  | false => none
set_option maxRecDepth 1000000 in
theorem E_M_rowsOfSlips_0 (N : Nat) (n : Nat) (h : MH) : seg (C_M_rowsOfSlips N) 3 0 rI T_M_rowsOfSlips [0, 4] (fun q lv st h => match Nat.ble 1 q with
    | true => D_M_rowsOfSlips N n q lv st h
    | false => B_M_rowsOfSlips N n q lv st h) 400 true 0 [(0, .inr (.inr (0, 12, 68)))] [] h = F_M_rowsOfSlips_0 N (L_M_rowsOfSlips N n) h := (rfl)
set_option maxRecDepth 1000000 in
theorem E_M_rowsOfSlips_4 (N : Nat) (n : Nat) (a1 : Int32) (a2 : Int32) (h : MH) : seg (C_M_rowsOfSlips N) 3 0 rI T_M_rowsOfSlips [0, 4] (fun q lv st h => match Nat.ble 5 q with
    | true => D_M_rowsOfSlips N n q lv st h
    | false => B_M_rowsOfSlips N n q lv st h) 400 true 4 [(0, .inr (.inr (0, 12, 68))), (1, .inl a1), (2, .inl a2)] [] h = F_M_rowsOfSlips_4 N (L_M_rowsOfSlips N n) a1 a2 h := (rfl)
def T_M_lay : List (List (Option RW)) := [
  [some (.iload_n 1, 1, [1], 0, 0), some (.istore_n 2, 1, [2], 0, 0), some (.aload_n 0, 1, [0], 0, 0), some (.getfield 348, 3, [12, 32, 0], 0, 0), none, none, some (.iconst 1, 1, [], 1, 0), some (.isub, 1, [], 0, 0), some (.istore_n 3, 1, [3], 0, 0), some (.iload_n 3, 1, [3], 0, 0), some (.ifCond .lt 24, 3, [34], 0, 0), none, none, some (.aload_n 0, 1, [0], 0, 0), some (.getfield 132, 3, [12, 68, 2, 1, 6, 35], 0, 0), none, none, some (.iload_n 3, 1, [3], 0, 0), some (.iload_n 2, 1, [2], 0, 0), some (.bipush 10, 2, [], 10, 0), none, some (.irem, 1, [], 0, 0), some (.iastore, 1, [], 0, 0), some (.iload_n 2, 1, [2], 0, 0), some (.bipush 10, 2, [], 10, 0), none, some (.idiv, 1, [], 0, 0), some (.istore_n 2, 1, [2], 0, 0), some (.iinc 3 (-1), 3, [3], (-1), 0), none, none, some (.goto (-22), 3, [9], 0, 0)],
  [none, none, some (.return_, 1, [], 0, 0)]]
def F_M_lay_9 (N : Nat) (bk : (Int32 → Int32 → MH → Option (MH))) (a2 : Int32) (a3 : Int32) (h : MH) : Option (MH) :=
  if a3 < 0 then
  (some h)
  else
  (if 10 = 0 then none else
  if inB a3 6 = true then
  (let h2 : MH := sI h 103 (iN a3) (a2 - a2 / 10 * 10)
  if 10 = 0 then none else
  let v3 : Int32 := a2 / 10
  let v4 : Int32 := a3 + (-1)
  bk v3 v4 h2)
  else none)
def F_M_lay_0 (N : Nat) (bk : (Int32 → Int32 → MH → Option (MH))) (a1 : Int32) (h : MH) : Option (MH) :=
  let v1 : Int32 := (gI h 68 32) - 1
  F_M_lay_9 N bk a1 v1 h
def L_M_lay (N : Nat) : Nat → (Int32 → Int32 → MH → Option (MH))
  | 0 => fun _ _ _ => none
  | n + 1 => F_M_lay_9 N (L_M_lay N n)
def f_M_lay (N : Nat) (a1 : Int32) (h : MH) : Option (MH) := F_M_lay_0 N (L_M_lay N N) a1 h
def C_M_lay (N : Nat) : MC := (KDL, false, (fun _ => 0), jsB, (fun _ _ _ => none), (fun _ _ _ => none), (fun _ _ _ => none), (fun _ _ _ => none))
def D_M_lay (N : Nat) (n pc : Nat) (lv : ML) (st : List MV) (h : MH) : Option (MH) :=
  match Nat.beq pc 0 with
  | true => (match lk lv 0, lk lv 1, st with
    | some (.inr (.inr (0, 12, 68))), some (.inl a1), [] => F_M_lay_0 N (L_M_lay N n) a1 h
    | _, _, _ => none)
  | false => match Nat.beq pc 9 with
  | true => (match lk lv 0, lk lv 2, lk lv 3, st with
    | some (.inr (.inr (0, 12, 68))), some (.inl a2), some (.inl a3), [] => F_M_lay_9 N (L_M_lay N n) a2 a3 h
    | _, _, _, _ => none)
  | false => none
def B_M_lay (N : Nat) (n pc : Nat) (lv : ML) (st : List MV) (h : MH) : Option (MH) :=
  match Nat.beq pc 9 with
  | true => (match lk lv 0, lk lv 2, lk lv 3, st with
    | some (.inr (.inr (0, 12, 68))), some (.inl a2), some (.inl a3), [] => ((L_M_lay N n)) a2 a3 h
    | _, _, _, _ => none)
  | false => none
set_option maxRecDepth 1000000 in
theorem E_M_lay_0 (N : Nat) (n : Nat) (a1 : Int32) (h : MH) : seg (C_M_lay N) 4 0 rV T_M_lay [0, 9] (fun q lv st h => match Nat.ble 1 q with
    | true => D_M_lay N n q lv st h
    | false => B_M_lay N n q lv st h) 400 true 0 [(0, .inr (.inr (0, 12, 68))), (1, .inl a1)] [] h = F_M_lay_0 N (L_M_lay N n) a1 h := (rfl)
set_option maxRecDepth 1000000 in
theorem E_M_lay_9 (N : Nat) (n : Nat) (a2 : Int32) (a3 : Int32) (h : MH) : seg (C_M_lay N) 4 0 rV T_M_lay [0, 9] (fun q lv st h => match Nat.ble 10 q with
    | true => D_M_lay N n q lv st h
    | false => B_M_lay N n q lv st h) 400 true 9 [(0, .inr (.inr (0, 12, 68))), (2, .inl a2), (3, .inl a3)] [] h = F_M_lay_9 N (L_M_lay N n) a2 a3 h := (rfl)
def T_Math_abs_I : List (List (Option RW)) := [
  [some (.iload_n 0, 1, [0], 0, 0), some (.ifCond .ge 8, 3, [9], 0, 0), none, none, some (.iload_n 0, 1, [0], 0, 0), some (.ineg, 1, [], 0, 0), some (.goto 4, 3, [10], 0, 0), none, none, some (.iload_n 0, 1, [0], 0, 0), some (.ireturn, 1, [], 0, 0)]]
def f_Math_abs_I (N : Nat) (a0 : Int32) (h : MH) : Option (Int32 × MH) :=
  if 0 ≤ a0 then
  (some (a0, h))
  else
  (some (-a0, h))
def C_Math_abs_I (N : Nat) : MC := (KDL, false, (fun _ => 0), jsB, (fun _ _ _ => none), (fun _ _ _ => none), (fun _ _ _ => none), (fun _ _ _ => none))
def D_Math_abs_I (N : Nat) (n pc : Nat) (lv : ML) (st : List MV) (h : MH) : Option (Int32 × MH) :=
  match Nat.beq pc 0 with
  | true => (match lk lv 0, st with
    | some (.inl a0), [] => f_Math_abs_I N a0 h
    | _, _ => none)
  | false => none
set_option maxRecDepth 1000000 in
theorem E_Math_abs_I_0 (N : Nat) (n : Nat) (a0 : Int32) (h : MH) : seg (C_Math_abs_I N) 1 0 rI T_Math_abs_I [0] (fun q lv st h => match Nat.ble 1 q with
    | true => D_Math_abs_I N n q lv st h
    | false => none) 400 true 0 [(0, .inl a0)] [] h = f_Math_abs_I N a0 h := (rfl)
def T_M_bend : List (List (Option RW)) := [
  [some (.iconst 0, 1, [], 0, 0), some (.istore_n 1, 1, [1], 0, 0), some (.iconst 0, 1, [], 0, 0), some (.istore_n 2, 1, [2], 0, 0), some (.iload_n 2, 1, [2], 0, 0), some (.aload_n 0, 1, [0], 0, 0), some (.getfield 348, 3, [12, 32, 0], 0, 0), none, none, some (.if_icmp .ge 57, 3, [66], 0, 0), none, none, some (.iconst 0, 1, [], 0, 0), some (.istore_n 3, 1, [3], 0, 0), some (.iload_n 3, 1, [3], 0, 0), some (.iload_n 2, 1, [2], 0, 0), some (.if_icmp .ge 44, 3, [60], 0, 0), none, none, some (.aload_n 0, 1, [0], 0, 0), some (.getfield 84, 3, [12, 38, 2, 4, 36, 21], 0, 0), none, none, some (.bipush 6, 2, [], 6, 0), none, some (.iload_n 2, 1, [2], 0, 0), some (.imul, 1, [], 0, 0), some (.iload_n 3, 1, [3], 0, 0), some (.iadd, 1, [], 0, 0), some (.baload, 1, [], 0, 0), some (.ifCond .eq 24, 3, [54], 0, 0), none],
  [none, some (.iload_n 1, 1, [1], 0, 0), some (.aload_n 0, 1, [0], 0, 0), some (.getfield 132, 3, [12, 68, 2, 1, 6, 35], 0, 0), none, none, some (.iload_n 2, 1, [2], 0, 0), some (.iaload, 1, [], 0, 0), some (.aload_n 0, 1, [0], 0, 0), some (.getfield 132, 3, [12, 68, 2, 1, 6, 35], 0, 0), none, none, some (.iload_n 3, 1, [3], 0, 0), some (.iaload, 1, [], 0, 0), some (.isub, 1, [], 0, 0), some (.invokestatic 430, 3, [2, 258, 1, 0], 0, 0), none, none, some (.invokestatic 433, 3, [2, 260, 2, 0], 0, 0), none, none, some (.istore_n 1, 1, [1], 0, 0), some (.iinc 3 1, 3, [3], 1, 0), none, none, some (.goto (-43), 3, [14], 0, 0), none, none, some (.iinc 2 1, 3, [2], 1, 0), none, none, some (.goto (-59), 3, [4], 0, 0)],
  [none, none, some (.iload_n 1, 1, [1], 0, 0), some (.ireturn, 1, [], 0, 0)]]
def F_M_bend_14 (N : Nat) (bk : (Int32 → Int32 → MH → Option (Int32 × MH)) × (Int32 → Int32 → Int32 → MH → Option (Int32 × MH))) (a1 : Int32) (a2 : Int32) (a3 : Int32) (h : MH) : Option (Int32 × MH) :=
  if a2 ≤ a3 then
  (let v1 : Int32 := a2 + 1
  (bk.1) a1 v1 h)
  else
  (if inB ((6 * a2) + a3) 36 = true then
  (if (gI h 89 (iN ((6 * a2) + a3))) = 0 then
  (let v2 : Int32 := a3 + 1
  (bk.2) a1 a2 v2 h)
  else
  (if inB a2 6 = true then
  (if inB a3 6 = true then
  ((f_Math_abs_I N ((gI h 103 (iN a2)) - (gI h 103 (iN a3))) h).bind (fun x3 =>
  (f_Math_max N a1 x3.1 x3.2).bind (fun x4 =>
  let v5 : Int32 := a3 + 1
  (bk.2) x4.1 a2 v5 x4.2)))
  else none)
  else none))
  else none)
def F_M_bend_4 (N : Nat) (bk : (Int32 → Int32 → MH → Option (Int32 × MH)) × (Int32 → Int32 → Int32 → MH → Option (Int32 × MH))) (a1 : Int32) (a2 : Int32) (h : MH) : Option (Int32 × MH) :=
  if (gI h 68 32) ≤ a2 then
  (some (a1, h))
  else
  (F_M_bend_14 N bk a1 a2 0 h)
def F_M_bend_0 (N : Nat) (bk : (Int32 → Int32 → MH → Option (Int32 × MH)) × (Int32 → Int32 → Int32 → MH → Option (Int32 × MH))) (h : MH) : Option (Int32 × MH) :=
  F_M_bend_4 N bk 0 0 h
def L_M_bend (N : Nat) : Nat → ((Int32 → Int32 → MH → Option (Int32 × MH)) × (Int32 → Int32 → Int32 → MH → Option (Int32 × MH)))
  | 0 => (fun _ _ _ => none, fun _ _ _ _ => none)
  | n + 1 => (F_M_bend_4 N (L_M_bend N n), F_M_bend_14 N (L_M_bend N n))
def f_M_bend (N : Nat) (h : MH) : Option (Int32 × MH) := F_M_bend_0 N (L_M_bend N N) h
def C_M_bend (N : Nat) : MC := (KDL, false, (fun _ => 0), jsB, (fun j => match Nat.beq j 258 with
    | true => w_Math_abs_I (f_Math_abs_I N)
    | false => match Nat.beq j 260 with
    | true => w_Math_max (f_Math_max N)
    | false => fun _ _ => none), (fun _ _ _ => none), (fun _ _ _ => none), (fun _ _ _ => none))
def D_M_bend (N : Nat) (n pc : Nat) (lv : ML) (st : List MV) (h : MH) : Option (Int32 × MH) :=
  match Nat.beq pc 0 with
  | true => (match lk lv 0, st with
    | some (.inr (.inr (0, 12, 68))), [] => F_M_bend_0 N (L_M_bend N n) h
    | _, _ => none)
  | false => match Nat.beq pc 4 with
  | true => (match lk lv 0, lk lv 1, lk lv 2, st with
    | some (.inr (.inr (0, 12, 68))), some (.inl a1), some (.inl a2), [] => F_M_bend_4 N (L_M_bend N n) a1 a2 h
    | _, _, _, _ => none)
  | false => match Nat.beq pc 14 with
  | true => (match lk lv 0, lk lv 1, lk lv 2, lk lv 3, st with
    | some (.inr (.inr (0, 12, 68))), some (.inl a1), some (.inl a2), some (.inl a3), [] => F_M_bend_14 N (L_M_bend N n) a1 a2 a3 h
    | _, _, _, _, _ => none)
  | false => none
def B_M_bend (N : Nat) (n pc : Nat) (lv : ML) (st : List MV) (h : MH) : Option (Int32 × MH) :=
  match Nat.beq pc 4 with
  | true => (match lk lv 0, lk lv 1, lk lv 2, st with
    | some (.inr (.inr (0, 12, 68))), some (.inl a1), some (.inl a2), [] => ((L_M_bend N n).1) a1 a2 h
    | _, _, _, _ => none)
  | false => match Nat.beq pc 14 with
  | true => (match lk lv 0, lk lv 1, lk lv 2, lk lv 3, st with
    | some (.inr (.inr (0, 12, 68))), some (.inl a1), some (.inl a2), some (.inl a3), [] => ((L_M_bend N n).2) a1 a2 a3 h
    | _, _, _, _, _ => none)
  | false => none
set_option maxRecDepth 1000000 in
theorem E_M_bend_0 (N : Nat) (n : Nat) (h : MH) : seg (C_M_bend N) 4 0 rI T_M_bend [0, 4, 14] (fun q lv st h => match Nat.ble 1 q with
    | true => D_M_bend N n q lv st h
    | false => B_M_bend N n q lv st h) 400 true 0 [(0, .inr (.inr (0, 12, 68)))] [] h = F_M_bend_0 N (L_M_bend N n) h := (rfl)
set_option maxRecDepth 1000000 in
theorem E_M_bend_4 (N : Nat) (n : Nat) (a1 : Int32) (a2 : Int32) (h : MH) : seg (C_M_bend N) 4 0 rI T_M_bend [0, 4, 14] (fun q lv st h => match Nat.ble 5 q with
    | true => D_M_bend N n q lv st h
    | false => B_M_bend N n q lv st h) 400 true 4 [(0, .inr (.inr (0, 12, 68))), (1, .inl a1), (2, .inl a2)] [] h = F_M_bend_4 N (L_M_bend N n) a1 a2 h := (rfl)
set_option maxRecDepth 1000000 in
theorem E_M_bend_14 (N : Nat) (n : Nat) (a1 : Int32) (a2 : Int32) (a3 : Int32) (h : MH) : seg (C_M_bend N) 4 0 rI T_M_bend [0, 4, 14] (fun q lv st h => match Nat.ble 15 q with
    | true => D_M_bend N n q lv st h
    | false => B_M_bend N n q lv st h) 400 true 14 [(0, .inr (.inr (0, 12, 68))), (1, .inl a1), (2, .inl a2), (3, .inl a3)] [] h = F_M_bend_14 N (L_M_bend N n) a1 a2 a3 h := (rfl)
def T_M_fitting : List (List (Option RW)) := [
  [some (.iconst 0, 1, [], 0, 0), some (.istore_n 2, 1, [2], 0, 0), some (.iconst 0, 1, [], 0, 0), some (.istore_n 3, 1, [3], 0, 0), some (.iload_n 3, 1, [3], 0, 0), some (.aload_n 0, 1, [0], 0, 0), some (.getfield 351, 3, [12, 33, 0], 0, 0), none, none, some (.if_icmp .ge 98, 3, [107], 0, 0), none, none, some (.iload_n 1, 1, [1], 0, 0), some (.iload_n 3, 1, [3], 0, 0), some (.ishr, 1, [], 0, 0), some (.iconst 1, 1, [], 1, 0), some (.iand, 1, [], 0, 0), some (.ifCond .ne 6, 3, [23], 0, 0), none, none, some (.goto 81, 3, [101], 0, 0), none, none, some (.iconst 0, 1, [], 0, 0), some (.istore 4, 2, [4], 0, 0), none, some (.iconst 0, 1, [], 0, 0), some (.istore 5, 2, [5], 0, 0), none, some (.iload 5, 2, [5], 0, 0), none, some (.aload_n 0, 1, [0], 0, 0)],
  [some (.getfield 348, 3, [12, 32, 0], 0, 0), none, none, some (.if_icmp .ge 34, 3, [69], 0, 0), none, none, some (.iload 4, 2, [4], 0, 0), none, some (.aload_n 0, 1, [0], 0, 0), some (.getfield 132, 3, [12, 68, 2, 1, 6, 35], 0, 0), none, none, some (.iload 5, 2, [5], 0, 0), none, some (.iaload, 1, [], 0, 0), some (.aload_n 0, 1, [0], 0, 0), some (.getfield 81, 3, [12, 37, 2, 1, 48, 20], 0, 0), none, none, some (.bipush 8, 2, [], 8, 0), none, some (.iload 5, 2, [5], 0, 0), none, some (.imul, 1, [], 0, 0), some (.iload_n 3, 1, [3], 0, 0), some (.iadd, 1, [], 0, 0), some (.iaload, 1, [], 0, 0), some (.imul, 1, [], 0, 0), some (.iadd, 1, [], 0, 0), some (.istore 4, 2, [4], 0, 0), none, some (.iinc 5 1, 3, [5], 1, 0)],
  [none, none, some (.goto (-37), 3, [29], 0, 0), none, none, some (.iload_n 2, 1, [2], 0, 0), some (.iload 4, 2, [4], 0, 0), none, some (.aload_n 0, 1, [0], 0, 0), some (.getfield 135, 3, [12, 69, 2, 1, 8, 36], 0, 0), none, none, some (.iload_n 3, 1, [3], 0, 0), some (.iaload, 1, [], 0, 0), some (.if_icmp .lt 20, 3, [98], 0, 0), none, none, some (.iload 4, 2, [4], 0, 0), none, some (.aload_n 0, 1, [0], 0, 0), some (.getfield 138, 3, [12, 70, 2, 1, 8, 37], 0, 0), none, none, some (.iload_n 3, 1, [3], 0, 0), some (.iaload, 1, [], 0, 0), some (.if_icmp .gt 9, 3, [98], 0, 0), none, none, some (.iconst 1, 1, [], 1, 0), some (.iload_n 3, 1, [3], 0, 0), some (.ishl, 1, [], 0, 0), some (.goto 4, 3, [99], 0, 0)],
  [none, none, some (.iconst 0, 1, [], 0, 0), some (.ior, 1, [], 0, 0), some (.istore_n 2, 1, [2], 0, 0), some (.iinc 3 1, 3, [3], 1, 0), none, none, some (.goto (-100), 3, [4], 0, 0), none, none, some (.iload_n 2, 1, [2], 0, 0), some (.ireturn, 1, [], 0, 0)]]
def F_M_fitting_29 (N : Nat) (bk : (Int32 → Int32 → Int32 → MH → Option (Int32 × MH)) × (Int32 → Int32 → Int32 → Int32 → Int32 → MH → Option (Int32 × MH))) (a1 : Int32) (a2 : Int32) (a3 : Int32) (a4 : Int32) (a5 : Int32) (h : MH) : Option (Int32 × MH) :=
  if (gI h 68 32) ≤ a5 then
  (if inB a3 8 = true then
  (if a4 < (gI h 104 (iN a3)) then
  (let v2 : Int32 := a2 ||| 0
  let v3 : Int32 := a3 + 1
  (bk.1) a1 v2 v3 h)
  else
  (if inB a3 8 = true then
  (if (gI h 105 (iN a3)) < a4 then
  (let v4 : Int32 := a2 ||| 0
  let v5 : Int32 := a3 + 1
  (bk.1) a1 v4 v5 h)
  else
  (let v6 : Int32 := a2 ||| ((1 : Int32) <<< (a3 &&& 31))
  let v7 : Int32 := a3 + 1
  (bk.1) a1 v6 v7 h))
  else none))
  else none)
  else
  (if inB a5 6 = true then
  (if inB ((8 * a5) + a3) 48 = true then
  (let v8 : Int32 := a4 + ((gI h 103 (iN a5)) * (gI h 88 (iN ((8 * a5) + a3))))
  let v9 : Int32 := a5 + 1
  (bk.2) a1 a2 a3 v8 v9 h)
  else none)
  else none)
def F_M_fitting_4 (N : Nat) (bk : (Int32 → Int32 → Int32 → MH → Option (Int32 × MH)) × (Int32 → Int32 → Int32 → Int32 → Int32 → MH → Option (Int32 × MH))) (a1 : Int32) (a2 : Int32) (a3 : Int32) (h : MH) : Option (Int32 × MH) :=
  if (gI h 68 33) ≤ a3 then
  (some (a2, h))
  else
  (if ((a1 >>> (a3 &&& 31)) &&& 1) = 0 then
  (let v1 : Int32 := a3 + 1
  (bk.1) a1 a2 v1 h)
  else
  (F_M_fitting_29 N bk a1 a2 a3 0 0 h))
def F_M_fitting_0 (N : Nat) (bk : (Int32 → Int32 → Int32 → MH → Option (Int32 × MH)) × (Int32 → Int32 → Int32 → Int32 → Int32 → MH → Option (Int32 × MH))) (a1 : Int32) (h : MH) : Option (Int32 × MH) :=
  F_M_fitting_4 N bk a1 0 0 h
def L_M_fitting (N : Nat) : Nat → ((Int32 → Int32 → Int32 → MH → Option (Int32 × MH)) × (Int32 → Int32 → Int32 → Int32 → Int32 → MH → Option (Int32 × MH)))
  | 0 => (fun _ _ _ _ => none, fun _ _ _ _ _ _ => none)
  | n + 1 => (F_M_fitting_4 N (L_M_fitting N n), F_M_fitting_29 N (L_M_fitting N n))
def f_M_fitting (N : Nat) (a1 : Int32) (h : MH) : Option (Int32 × MH) := F_M_fitting_0 N (L_M_fitting N N) a1 h
def C_M_fitting (N : Nat) : MC := (KDL, false, (fun _ => 0), jsB, (fun _ _ _ => none), (fun _ _ _ => none), (fun _ _ _ => none), (fun _ _ _ => none))
def D_M_fitting (N : Nat) (n pc : Nat) (lv : ML) (st : List MV) (h : MH) : Option (Int32 × MH) :=
  match Nat.beq pc 0 with
  | true => (match lk lv 0, lk lv 1, st with
    | some (.inr (.inr (0, 12, 68))), some (.inl a1), [] => F_M_fitting_0 N (L_M_fitting N n) a1 h
    | _, _, _ => none)
  | false => match Nat.beq pc 4 with
  | true => (match lk lv 0, lk lv 1, lk lv 2, lk lv 3, st with
    | some (.inr (.inr (0, 12, 68))), some (.inl a1), some (.inl a2), some (.inl a3), [] => F_M_fitting_4 N (L_M_fitting N n) a1 a2 a3 h
    | _, _, _, _, _ => none)
  | false => match Nat.beq pc 29 with
  | true => (match lk lv 0, lk lv 1, lk lv 2, lk lv 3, lk lv 4, lk lv 5, st with
    | some (.inr (.inr (0, 12, 68))), some (.inl a1), some (.inl a2), some (.inl a3), some (.inl a4), some (.inl a5), [] => F_M_fitting_29 N (L_M_fitting N n) a1 a2 a3 a4 a5 h
    | _, _, _, _, _, _, _ => none)
  | false => none
def B_M_fitting (N : Nat) (n pc : Nat) (lv : ML) (st : List MV) (h : MH) : Option (Int32 × MH) :=
  match Nat.beq pc 4 with
  | true => (match lk lv 0, lk lv 1, lk lv 2, lk lv 3, st with
    | some (.inr (.inr (0, 12, 68))), some (.inl a1), some (.inl a2), some (.inl a3), [] => ((L_M_fitting N n).1) a1 a2 a3 h
    | _, _, _, _, _ => none)
  | false => match Nat.beq pc 29 with
  | true => (match lk lv 0, lk lv 1, lk lv 2, lk lv 3, lk lv 4, lk lv 5, st with
    | some (.inr (.inr (0, 12, 68))), some (.inl a1), some (.inl a2), some (.inl a3), some (.inl a4), some (.inl a5), [] => ((L_M_fitting N n).2) a1 a2 a3 a4 a5 h
    | _, _, _, _, _, _, _ => none)
  | false => none
set_option maxRecDepth 1000000 in
theorem E_M_fitting_0 (N : Nat) (n : Nat) (a1 : Int32) (h : MH) : seg (C_M_fitting N) 6 0 rI T_M_fitting [0, 4, 29] (fun q lv st h => match Nat.ble 1 q with
    | true => D_M_fitting N n q lv st h
    | false => B_M_fitting N n q lv st h) 400 true 0 [(0, .inr (.inr (0, 12, 68))), (1, .inl a1)] [] h = F_M_fitting_0 N (L_M_fitting N n) a1 h := (rfl)
set_option maxRecDepth 1000000 in
theorem E_M_fitting_4 (N : Nat) (n : Nat) (a1 : Int32) (a2 : Int32) (a3 : Int32) (h : MH) : seg (C_M_fitting N) 6 0 rI T_M_fitting [0, 4, 29] (fun q lv st h => match Nat.ble 5 q with
    | true => D_M_fitting N n q lv st h
    | false => B_M_fitting N n q lv st h) 400 true 4 [(0, .inr (.inr (0, 12, 68))), (1, .inl a1), (2, .inl a2), (3, .inl a3)] [] h = F_M_fitting_4 N (L_M_fitting N n) a1 a2 a3 h := (rfl)
set_option maxRecDepth 1000000 in
theorem E_M_fitting_29 (N : Nat) (n : Nat) (a1 : Int32) (a2 : Int32) (a3 : Int32) (a4 : Int32) (a5 : Int32) (h : MH) : seg (C_M_fitting N) 6 0 rI T_M_fitting [0, 4, 29] (fun q lv st h => match Nat.ble 30 q with
    | true => D_M_fitting N n q lv st h
    | false => B_M_fitting N n q lv st h) 400 true 29 [(0, .inr (.inr (0, 12, 68))), (1, .inl a1), (2, .inl a2), (3, .inl a3), (4, .inl a4), (5, .inl a5)] [] h = F_M_fitting_29 N (L_M_fitting N n) a1 a2 a3 a4 a5 h := (rfl)
def T_M_sumOf : List (List (Option RW)) := [
  [some (.iconst 0, 1, [], 0, 0), some (.istore_n 2, 1, [2], 0, 0), some (.iconst 0, 1, [], 0, 0), some (.istore_n 3, 1, [3], 0, 0), some (.iload_n 3, 1, [3], 0, 0), some (.aload_n 0, 1, [0], 0, 0), some (.getfield 348, 3, [12, 32, 0], 0, 0), none, none, some (.if_icmp .ge 31, 3, [40], 0, 0), none, none, some (.iload_n 2, 1, [2], 0, 0), some (.iload_n 1, 1, [1], 0, 0), some (.iload_n 3, 1, [3], 0, 0), some (.ishr, 1, [], 0, 0), some (.iconst 1, 1, [], 1, 0), some (.iand, 1, [], 0, 0), some (.iconst 1, 1, [], 1, 0), some (.if_icmp .ne 12, 3, [31], 0, 0), none, none, some (.aload_n 0, 1, [0], 0, 0), some (.getfield 132, 3, [12, 68, 2, 1, 6, 35], 0, 0), none, none, some (.iload_n 3, 1, [3], 0, 0), some (.iaload, 1, [], 0, 0), some (.goto 4, 3, [32], 0, 0), none, none, some (.iconst 0, 1, [], 0, 0)],
  [some (.iadd, 1, [], 0, 0), some (.istore_n 2, 1, [2], 0, 0), some (.iinc 3 1, 3, [3], 1, 0), none, none, some (.goto (-33), 3, [4], 0, 0), none, none, some (.iload_n 2, 1, [2], 0, 0), some (.ireturn, 1, [], 0, 0)]]
def F_M_sumOf_4 (N : Nat) (bk : (Int32 → Int32 → Int32 → MH → Option (Int32 × MH))) (a1 : Int32) (a2 : Int32) (a3 : Int32) (h : MH) : Option (Int32 × MH) :=
  if (gI h 68 32) ≤ a3 then
  (some (a2, h))
  else
  (if ((a1 >>> (a3 &&& 31)) &&& 1) = 1 then
  (if inB a3 6 = true then
  (let v1 : Int32 := a2 + (gI h 103 (iN a3))
  let v2 : Int32 := a3 + 1
  bk a1 v1 v2 h)
  else none)
  else
  (let v3 : Int32 := a2 + 0
  let v4 : Int32 := a3 + 1
  bk a1 v3 v4 h))
def F_M_sumOf_0 (N : Nat) (bk : (Int32 → Int32 → Int32 → MH → Option (Int32 × MH))) (a1 : Int32) (h : MH) : Option (Int32 × MH) :=
  F_M_sumOf_4 N bk a1 0 0 h
def L_M_sumOf (N : Nat) : Nat → (Int32 → Int32 → Int32 → MH → Option (Int32 × MH))
  | 0 => fun _ _ _ _ => none
  | n + 1 => F_M_sumOf_4 N (L_M_sumOf N n)
def f_M_sumOf (N : Nat) (a1 : Int32) (h : MH) : Option (Int32 × MH) := F_M_sumOf_0 N (L_M_sumOf N N) a1 h
def C_M_sumOf (N : Nat) : MC := (KDL, false, (fun _ => 0), jsB, (fun _ _ _ => none), (fun _ _ _ => none), (fun _ _ _ => none), (fun _ _ _ => none))
def D_M_sumOf (N : Nat) (n pc : Nat) (lv : ML) (st : List MV) (h : MH) : Option (Int32 × MH) :=
  match Nat.beq pc 0 with
  | true => (match lk lv 0, lk lv 1, st with
    | some (.inr (.inr (0, 12, 68))), some (.inl a1), [] => F_M_sumOf_0 N (L_M_sumOf N n) a1 h
    | _, _, _ => none)
  | false => match Nat.beq pc 4 with
  | true => (match lk lv 0, lk lv 1, lk lv 2, lk lv 3, st with
    | some (.inr (.inr (0, 12, 68))), some (.inl a1), some (.inl a2), some (.inl a3), [] => F_M_sumOf_4 N (L_M_sumOf N n) a1 a2 a3 h
    | _, _, _, _, _ => none)
  | false => none
def B_M_sumOf (N : Nat) (n pc : Nat) (lv : ML) (st : List MV) (h : MH) : Option (Int32 × MH) :=
  match Nat.beq pc 4 with
  | true => (match lk lv 0, lk lv 1, lk lv 2, lk lv 3, st with
    | some (.inr (.inr (0, 12, 68))), some (.inl a1), some (.inl a2), some (.inl a3), [] => ((L_M_sumOf N n)) a1 a2 a3 h
    | _, _, _, _, _ => none)
  | false => none
set_option maxRecDepth 1000000 in
theorem E_M_sumOf_0 (N : Nat) (n : Nat) (a1 : Int32) (h : MH) : seg (C_M_sumOf N) 4 0 rI T_M_sumOf [0, 4] (fun q lv st h => match Nat.ble 1 q with
    | true => D_M_sumOf N n q lv st h
    | false => B_M_sumOf N n q lv st h) 400 true 0 [(0, .inr (.inr (0, 12, 68))), (1, .inl a1)] [] h = F_M_sumOf_0 N (L_M_sumOf N n) a1 h := (rfl)
set_option maxRecDepth 1000000 in
theorem E_M_sumOf_4 (N : Nat) (n : Nat) (a1 : Int32) (a2 : Int32) (a3 : Int32) (h : MH) : seg (C_M_sumOf N) 4 0 rI T_M_sumOf [0, 4] (fun q lv st h => match Nat.ble 5 q with
    | true => D_M_sumOf N n q lv st h
    | false => B_M_sumOf N n q lv st h) 400 true 4 [(0, .inr (.inr (0, 12, 68))), (1, .inl a1), (2, .inl a2), (3, .inl a3)] [] h = F_M_sumOf_4 N (L_M_sumOf N n) a1 a2 a3 h := (rfl)
def T_M_count : List (List (Option RW)) := [
  [some (.lconst 0, 1, [], 0, 0), some (.lstore_n 3, 1, [3], 0, 0), some (.iconst 0, 1, [], 0, 0), some (.istore 5, 2, [5], 0, 0), none, some (.iload 5, 2, [5], 0, 0), none, some (.bipush 55, 2, [], 55, 0), none, some (.if_icmp .ge 17, 3, [26], 0, 0), none, none, some (.aload_n 0, 1, [0], 0, 0), some (.getfield 144, 3, [12, 72, 2, 2, 55, 39], 0, 0), none, none, some (.iload 5, 2, [5], 0, 0), none, some (.lconst 0, 1, [], 0, 0), some (.lastore, 1, [], 0, 0), some (.iinc 5 1, 3, [5], 1, 0), none, none, some (.goto (-18), 3, [5], 0, 0), none, none, some (.aload_n 0, 1, [0], 0, 0), some (.invokevirtual 436, 3, [0, 228, 1, 0], 0, 0), none, none, some (.istore 5, 2, [5], 0, 0), none],
  [some (.iconst 0, 1, [], 0, 0), some (.istore 6, 2, [6], 0, 0), none, some (.iload 6, 2, [6], 0, 0), none, some (.iload 5, 2, [5], 0, 0), none, some (.if_icmp .ge 94, 3, [133], 0, 0), none, none, some (.aload_n 0, 1, [0], 0, 0), some (.iload 6, 2, [6], 0, 0), none, some (.invokevirtual 439, 3, [0, 229, 2, 3], 0, 0), none, none, some (.aload_n 0, 1, [0], 0, 0), some (.invokevirtual 442, 3, [0, 230, 1, 0], 0, 0), none, none, some (.aload_n 0, 1, [0], 0, 0), some (.getfield 129, 3, [12, 66, 0], 0, 0), none, none, some (.if_icmp .gt 71, 3, [127], 0, 0), none, none, some (.aload_n 0, 1, [0], 0, 0), some (.iload_n 1, 1, [1], 0, 0), some (.invokevirtual 445, 3, [0, 231, 2, 0], 0, 0), none, none],
  [some (.iload_n 1, 1, [1], 0, 0), some (.if_icmp .eq 6, 3, [71], 0, 0), none, none, some (.goto 59, 3, [127], 0, 0), none, none, some (.lload_n 3, 1, [3], 0, 0), some (.lconst 0, 1, [], 0, 0), some (.lcmp, 1, [], 0, 0), some (.ifCond .ne 35, 3, [109], 0, 0), none, none, some (.iconst 0, 1, [], 0, 0), some (.istore 7, 2, [7], 0, 0), none, some (.iload 7, 2, [7], 0, 0), none, some (.aload_n 0, 1, [0], 0, 0), some (.getfield 348, 3, [12, 32, 0], 0, 0), none, none, some (.if_icmp .ge 23, 3, [109], 0, 0), none, none, some (.aload_n 0, 1, [0], 0, 0), some (.getfield 147, 3, [12, 73, 2, 1, 6, 40], 0, 0), none, none, some (.iload 7, 2, [7], 0, 0), none, some (.aload_n 0, 1, [0], 0, 0)],
  [some (.getfield 132, 3, [12, 68, 2, 1, 6, 35], 0, 0), none, none, some (.iload 7, 2, [7], 0, 0), none, some (.iaload, 1, [], 0, 0), some (.iastore, 1, [], 0, 0), some (.iinc 7 1, 3, [7], 1, 0), none, none, some (.goto (-26), 3, [80], 0, 0), none, none, some (.aload_n 0, 1, [0], 0, 0), some (.getfield 144, 3, [12, 72, 2, 2, 55, 39], 0, 0), none, none, some (.aload_n 0, 1, [0], 0, 0), some (.iload_n 2, 1, [2], 0, 0), some (.invokevirtual 448, 3, [0, 232, 2, 0], 0, 0), none, none, some (.dup2, 1, [], 0, 0), some (.laload, 1, [], 0, 0), some (.lconst 1, 1, [], 0, 1), some (.ladd, 1, [], 0, 0), some (.lastore, 1, [], 0, 0), some (.lload_n 3, 1, [3], 0, 0), some (.lconst 1, 1, [], 0, 1), some (.ladd, 1, [], 0, 0), some (.lstore_n 3, 1, [3], 0, 0), some (.iinc 6 1, 3, [6], 1, 0)],
  [none, none, some (.goto (-95), 3, [35], 0, 0), none, none, some (.lload_n 3, 1, [3], 0, 0), some (.lreturn, 1, [], 0, 0)]]
def F_M_count_109 (N : Nat) (bk : (Int32 → Int32 → Int64 → Int32 → MH → Option (Int64 × MH)) × (Int32 → Int32 → Int64 → Int32 → Int32 → MH → Option (Int64 × MH)) × (Int32 → Int32 → Int64 → Int32 → Int32 → Int32 → MH → Option (Int64 × MH))) (a1 : Int32) (a2 : Int32) (a3 : Int64) (a5 : Int32) (a6 : Int32) (h : MH) : Option (Int64 × MH) :=
  (f_M_sumOf N a2 h).bind (fun x9 =>
  if inB x9.1 55 = true then
  (if inB x9.1 55 = true then
  (let h10 : MH := sJ x9.2 107 (iN x9.1) ((gJ x9.2 107 (iN x9.1)) + 1)
  let v11 : Int64 := a3 + 1
  let v12 : Int32 := a6 + 1
  (bk.2.1) a1 a2 v11 a5 v12 h10)
  else none)
  else none)
def F_M_count_80 (N : Nat) (bk : (Int32 → Int32 → Int64 → Int32 → MH → Option (Int64 × MH)) × (Int32 → Int32 → Int64 → Int32 → Int32 → MH → Option (Int64 × MH)) × (Int32 → Int32 → Int64 → Int32 → Int32 → Int32 → MH → Option (Int64 × MH))) (a1 : Int32) (a2 : Int32) (a3 : Int64) (a5 : Int32) (a6 : Int32) (a7 : Int32) (h : MH) : Option (Int64 × MH) :=
  if (gI h 68 32) ≤ a7 then
  (F_M_count_109 N bk a1 a2 a3 a5 a6 h)
  else
  (if inB a7 6 = true then
  (if inB a7 6 = true then
  (let h13 : MH := sI h 108 (iN a7) (gI h 103 (iN a7))
  let v14 : Int32 := a7 + 1
  (bk.2.2) a1 a2 a3 a5 a6 v14 h13)
  else none)
  else none)
def F_M_count_35 (N : Nat) (bk : (Int32 → Int32 → Int64 → Int32 → MH → Option (Int64 × MH)) × (Int32 → Int32 → Int64 → Int32 → Int32 → MH → Option (Int64 × MH)) × (Int32 → Int32 → Int64 → Int32 → Int32 → Int32 → MH → Option (Int64 × MH))) (a1 : Int32) (a2 : Int32) (a3 : Int64) (a5 : Int32) (a6 : Int32) (h : MH) : Option (Int64 × MH) :=
  if a5 ≤ a6 then
  (some (a3, h))
  else
  ((f_M_lay N a6 h).bind (fun x4 =>
  (f_M_bend N x4).bind (fun x5 =>
  if (gI x5.2 68 66) < x5.1 then
  (let v6 : Int32 := a6 + 1
  (bk.2.1) a1 a2 a3 a5 v6 x5.2)
  else
  ((f_M_fitting N a1 x5.2).bind (fun x7 =>
  if x7.1 = a1 then
  (if (lg_cmp a3 0) = 0 then
  (F_M_count_80 N bk a1 a2 a3 a5 a6 0 x7.2)
  else
  (F_M_count_109 N bk a1 a2 a3 a5 a6 x7.2))
  else
  (let v8 : Int32 := a6 + 1
  (bk.2.1) a1 a2 a3 a5 v8 x7.2))))))
def F_M_count_5 (N : Nat) (bk : (Int32 → Int32 → Int64 → Int32 → MH → Option (Int64 × MH)) × (Int32 → Int32 → Int64 → Int32 → Int32 → MH → Option (Int64 × MH)) × (Int32 → Int32 → Int64 → Int32 → Int32 → Int32 → MH → Option (Int64 × MH))) (a1 : Int32) (a2 : Int32) (a3 : Int64) (a5 : Int32) (h : MH) : Option (Int64 × MH) :=
  if 55 ≤ a5 then
  ((f_M_rowsOfSlips N h).bind (fun x1 =>
  F_M_count_35 N bk a1 a2 a3 x1.1 0 x1.2))
  else
  (if inB a5 55 = true then
  (let h2 : MH := sJ h 107 (iN a5) 0
  let v3 : Int32 := a5 + 1
  (bk.1) a1 a2 a3 v3 h2)
  else none)
def F_M_count_0 (N : Nat) (bk : (Int32 → Int32 → Int64 → Int32 → MH → Option (Int64 × MH)) × (Int32 → Int32 → Int64 → Int32 → Int32 → MH → Option (Int64 × MH)) × (Int32 → Int32 → Int64 → Int32 → Int32 → Int32 → MH → Option (Int64 × MH))) (a1 : Int32) (a2 : Int32) (h : MH) : Option (Int64 × MH) :=
  F_M_count_5 N bk a1 a2 0 0 h
def L_M_count (N : Nat) : Nat → ((Int32 → Int32 → Int64 → Int32 → MH → Option (Int64 × MH)) × (Int32 → Int32 → Int64 → Int32 → Int32 → MH → Option (Int64 × MH)) × (Int32 → Int32 → Int64 → Int32 → Int32 → Int32 → MH → Option (Int64 × MH)))
  | 0 => (fun _ _ _ _ _ => none, fun _ _ _ _ _ _ => none, fun _ _ _ _ _ _ _ => none)
  | n + 1 => (F_M_count_5 N (L_M_count N n), F_M_count_35 N (L_M_count N n), F_M_count_80 N (L_M_count N n))
def f_M_count (N : Nat) (a1 : Int32) (a2 : Int32) (h : MH) : Option (Int64 × MH) := F_M_count_0 N (L_M_count N N) a1 a2 h
def C_M_count (N : Nat) : MC := (KDL, false, (fun _ => 0), jsB, (fun j => match Nat.beq j 228 with
    | true => w_M_rowsOfSlips (f_M_rowsOfSlips N)
    | false => match Nat.beq j 230 with
    | true => w_M_bend (f_M_bend N)
    | false => match Nat.beq j 231 with
    | true => w_M_fitting (f_M_fitting N)
    | false => match Nat.beq j 232 with
    | true => w_M_sumOf (f_M_sumOf N)
    | false => fun _ _ => none), (fun _ _ _ => none), (fun _ _ _ => none), (fun j => match Nat.beq j 229 with
    | true => w_M_lay (f_M_lay N)
    | false => fun _ _ => none))
def D_M_count (N : Nat) (n pc : Nat) (lv : ML) (st : List MV) (h : MH) : Option (Int64 × MH) :=
  match Nat.beq pc 0 with
  | true => (match lk lv 0, lk lv 1, lk lv 2, st with
    | some (.inr (.inr (0, 12, 68))), some (.inl a1), some (.inl a2), [] => F_M_count_0 N (L_M_count N n) a1 a2 h
    | _, _, _, _ => none)
  | false => match Nat.beq pc 5 with
  | true => (match lk lv 0, lk lv 1, lk lv 2, lk lv 3, lk lv 5, st with
    | some (.inr (.inr (0, 12, 68))), some (.inl a1), some (.inl a2), some (.inr (.inl a3)), some (.inl a5), [] => F_M_count_5 N (L_M_count N n) a1 a2 a3 a5 h
    | _, _, _, _, _, _ => none)
  | false => match Nat.beq pc 35 with
  | true => (match lk lv 0, lk lv 1, lk lv 2, lk lv 3, lk lv 5, lk lv 6, st with
    | some (.inr (.inr (0, 12, 68))), some (.inl a1), some (.inl a2), some (.inr (.inl a3)), some (.inl a5), some (.inl a6), [] => F_M_count_35 N (L_M_count N n) a1 a2 a3 a5 a6 h
    | _, _, _, _, _, _, _ => none)
  | false => match Nat.beq pc 80 with
  | true => (match lk lv 0, lk lv 1, lk lv 2, lk lv 3, lk lv 5, lk lv 6, lk lv 7, st with
    | some (.inr (.inr (0, 12, 68))), some (.inl a1), some (.inl a2), some (.inr (.inl a3)), some (.inl a5), some (.inl a6), some (.inl a7), [] => F_M_count_80 N (L_M_count N n) a1 a2 a3 a5 a6 a7 h
    | _, _, _, _, _, _, _, _ => none)
  | false => match Nat.beq pc 109 with
  | true => (match lk lv 0, lk lv 1, lk lv 2, lk lv 3, lk lv 5, lk lv 6, st with
    | some (.inr (.inr (0, 12, 68))), some (.inl a1), some (.inl a2), some (.inr (.inl a3)), some (.inl a5), some (.inl a6), [] => F_M_count_109 N (L_M_count N n) a1 a2 a3 a5 a6 h
    | _, _, _, _, _, _, _ => none)
  | false => none
def B_M_count (N : Nat) (n pc : Nat) (lv : ML) (st : List MV) (h : MH) : Option (Int64 × MH) :=
  match Nat.beq pc 5 with
  | true => (match lk lv 0, lk lv 1, lk lv 2, lk lv 3, lk lv 5, st with
    | some (.inr (.inr (0, 12, 68))), some (.inl a1), some (.inl a2), some (.inr (.inl a3)), some (.inl a5), [] => ((L_M_count N n).1) a1 a2 a3 a5 h
    | _, _, _, _, _, _ => none)
  | false => match Nat.beq pc 35 with
  | true => (match lk lv 0, lk lv 1, lk lv 2, lk lv 3, lk lv 5, lk lv 6, st with
    | some (.inr (.inr (0, 12, 68))), some (.inl a1), some (.inl a2), some (.inr (.inl a3)), some (.inl a5), some (.inl a6), [] => ((L_M_count N n).2.1) a1 a2 a3 a5 a6 h
    | _, _, _, _, _, _, _ => none)
  | false => match Nat.beq pc 80 with
  | true => (match lk lv 0, lk lv 1, lk lv 2, lk lv 3, lk lv 5, lk lv 6, lk lv 7, st with
    | some (.inr (.inr (0, 12, 68))), some (.inl a1), some (.inl a2), some (.inr (.inl a3)), some (.inl a5), some (.inl a6), some (.inl a7), [] => ((L_M_count N n).2.2) a1 a2 a3 a5 a6 a7 h
    | _, _, _, _, _, _, _, _ => none)
  | false => none
set_option maxRecDepth 1000000 in
theorem E_M_count_0 (N : Nat) (n : Nat) (a1 : Int32) (a2 : Int32) (h : MH) : seg (C_M_count N) 8 0 rJ T_M_count [0, 5, 35, 80, 109] (fun q lv st h => match Nat.ble 1 q with
    | true => D_M_count N n q lv st h
    | false => B_M_count N n q lv st h) 400 true 0 [(0, .inr (.inr (0, 12, 68))), (1, .inl a1), (2, .inl a2)] [] h = F_M_count_0 N (L_M_count N n) a1 a2 h := (rfl)
set_option maxRecDepth 1000000 in
theorem E_M_count_5 (N : Nat) (n : Nat) (a1 : Int32) (a2 : Int32) (a3 : Int64) (a5 : Int32) (h : MH) : seg (C_M_count N) 8 0 rJ T_M_count [0, 5, 35, 80, 109] (fun q lv st h => match Nat.ble 6 q with
    | true => D_M_count N n q lv st h
    | false => B_M_count N n q lv st h) 400 true 5 [(0, .inr (.inr (0, 12, 68))), (1, .inl a1), (2, .inl a2), (3, .inr (.inl a3)), (5, .inl a5)] [] h = F_M_count_5 N (L_M_count N n) a1 a2 a3 a5 h := (rfl)
set_option maxRecDepth 1000000 in
theorem E_M_count_35 (N : Nat) (n : Nat) (a1 : Int32) (a2 : Int32) (a3 : Int64) (a5 : Int32) (a6 : Int32) (h : MH) : seg (C_M_count N) 8 0 rJ T_M_count [0, 5, 35, 80, 109] (fun q lv st h => match Nat.ble 36 q with
    | true => D_M_count N n q lv st h
    | false => B_M_count N n q lv st h) 400 true 35 [(0, .inr (.inr (0, 12, 68))), (1, .inl a1), (2, .inl a2), (3, .inr (.inl a3)), (5, .inl a5), (6, .inl a6)] [] h = F_M_count_35 N (L_M_count N n) a1 a2 a3 a5 a6 h := (rfl)
set_option maxRecDepth 1000000 in
theorem E_M_count_80 (N : Nat) (n : Nat) (a1 : Int32) (a2 : Int32) (a3 : Int64) (a5 : Int32) (a6 : Int32) (a7 : Int32) (h : MH) : seg (C_M_count N) 8 0 rJ T_M_count [0, 5, 35, 80, 109] (fun q lv st h => match Nat.ble 81 q with
    | true => D_M_count N n q lv st h
    | false => B_M_count N n q lv st h) 400 true 80 [(0, .inr (.inr (0, 12, 68))), (1, .inl a1), (2, .inl a2), (3, .inr (.inl a3)), (5, .inl a5), (6, .inl a6), (7, .inl a7)] [] h = F_M_count_80 N (L_M_count N n) a1 a2 a3 a5 a6 a7 h := (rfl)
set_option maxRecDepth 1000000 in
theorem E_M_count_109 (N : Nat) (n : Nat) (a1 : Int32) (a2 : Int32) (a3 : Int64) (a5 : Int32) (a6 : Int32) (h : MH) : seg (C_M_count N) 8 0 rJ T_M_count [0, 5, 35, 80, 109] (fun q lv st h => match Nat.ble 110 q with
    | true => D_M_count N n q lv st h
    | false => B_M_count N n q lv st h) 400 true 109 [(0, .inr (.inr (0, 12, 68))), (1, .inl a1), (2, .inl a2), (3, .inr (.inl a3)), (5, .inl a5), (6, .inl a6)] [] h = F_M_count_109 N (L_M_count N n) a1 a2 a3 a5 a6 h := (rfl)
def T_M_areYears : List (List (Option RW)) := [
  [some (.iload_n 0, 1, [0], 0, 0), some (.invokestatic 369, 3, [2, 209, 1, 0], 0, 0), none, none, some (.ifCond .eq 19, 3, [23], 0, 0), none, none, some (.iload_n 1, 1, [1], 0, 0), some (.invokestatic 369, 3, [2, 209, 1, 0], 0, 0), none, none, some (.ifCond .eq 12, 3, [23], 0, 0), none, none, some (.iload_n 0, 1, [0], 0, 0), some (.iload_n 1, 1, [1], 0, 0), some (.if_icmp .ge 7, 3, [23], 0, 0), none, none, some (.iconst 1, 1, [], 1, 0), some (.goto 4, 3, [24], 0, 0), none, none, some (.iconst 0, 1, [], 0, 0), some (.ireturn, 1, [], 0, 0)]]
def f_M_areYears (N : Nat) (a0 : Int32) (a1 : Int32) (h : MH) : Option (Int32 × MH) :=
  (f_M_isYear N a0 h).bind (fun x1 =>
  if x1.1 = 0 then
  (some (0, x1.2))
  else
  ((f_M_isYear N a1 x1.2).bind (fun x2 =>
  if x2.1 = 0 then
  (some (0, x2.2))
  else
  (if a1 ≤ a0 then
  (some (0, x2.2))
  else
  (some (1, x2.2))))))
def C_M_areYears (N : Nat) : MC := (KDL, false, (fun _ => 0), jsB, (fun j => match Nat.beq j 209 with
    | true => w_M_isYear (f_M_isYear N)
    | false => fun _ _ => none), (fun _ _ _ => none), (fun _ _ _ => none), (fun _ _ _ => none))
def D_M_areYears (N : Nat) (n pc : Nat) (lv : ML) (st : List MV) (h : MH) : Option (Int32 × MH) :=
  match Nat.beq pc 0 with
  | true => (match lk lv 0, lk lv 1, st with
    | some (.inl a0), some (.inl a1), [] => f_M_areYears N a0 a1 h
    | _, _, _ => none)
  | false => none
set_option maxRecDepth 1000000 in
theorem E_M_areYears_0 (N : Nat) (n : Nat) (a0 : Int32) (a1 : Int32) (h : MH) : seg (C_M_areYears N) 2 1 rI T_M_areYears [0] (fun q lv st h => match Nat.ble 1 q with
    | true => D_M_areYears N n q lv st h
    | false => none) 400 true 0 [(0, .inl a0), (1, .inl a1)] [] h = f_M_areYears N a0 a1 h := (rfl)
def T_M_areCells : List (List (Option RW)) := [
  [some (.iload_n 1, 1, [1], 0, 0), some (.iconst 1, 1, [], 1, 0), some (.if_icmp .lt 17, 3, [19], 0, 0), none, none, some (.iload_n 1, 1, [1], 0, 0), some (.iconst 1, 1, [], 1, 0), some (.aload_n 0, 1, [0], 0, 0), some (.getfield 348, 3, [12, 32, 0], 0, 0), none, none, some (.ishl, 1, [], 0, 0), some (.if_icmp .ge 7, 3, [19], 0, 0), none, none, some (.iconst 1, 1, [], 1, 0), some (.goto 4, 3, [20], 0, 0), none, none, some (.iconst 0, 1, [], 0, 0), some (.ireturn, 1, [], 0, 0)]]
def f_M_areCells (N : Nat) (a1 : Int32) (h : MH) : Option (Int32 × MH) :=
  if a1 < 1 then
  (some (0, h))
  else
  (if ((1 : Int32) <<< ((gI h 68 32) &&& 31)) ≤ a1 then
  (some (0, h))
  else
  (some (1, h)))
def C_M_areCells (N : Nat) : MC := (KDL, false, (fun _ => 0), jsB, (fun _ _ _ => none), (fun _ _ _ => none), (fun _ _ _ => none), (fun _ _ _ => none))
def D_M_areCells (N : Nat) (n pc : Nat) (lv : ML) (st : List MV) (h : MH) : Option (Int32 × MH) :=
  match Nat.beq pc 0 with
  | true => (match lk lv 0, lk lv 1, st with
    | some (.inr (.inr (0, 12, 68))), some (.inl a1), [] => f_M_areCells N a1 h
    | _, _, _ => none)
  | false => none
set_option maxRecDepth 1000000 in
theorem E_M_areCells_0 (N : Nat) (n : Nat) (a1 : Int32) (h : MH) : seg (C_M_areCells N) 2 1 rI T_M_areCells [0] (fun q lv st h => match Nat.ble 1 q with
    | true => D_M_areCells N n q lv st h
    | false => none) 400 true 0 [(0, .inr (.inr (0, 12, 68))), (1, .inl a1)] [] h = f_M_areCells N a1 h := (rfl)
def T_M_slips : List (List (Option RW)) := [
  [some (.iload_n 1, 1, [1], 0, 0), some (.iload_n 2, 1, [2], 0, 0), some (.invokestatic 451, 3, [2, 234, 2, 0], 0, 0), none, none, some (.ifCond .ne 9, 3, [14], 0, 0), none, none, some (.aload_n 0, 1, [0], 0, 0), some (.iconst 1, 1, [], 1, 0), some (.invokevirtual 342, 3, [0, 168, 2, 0], 0, 0), none, none, some (.ireturn, 1, [], 0, 0), some (.aload_n 0, 1, [0], 0, 0), some (.getfield 348, 3, [12, 32, 0], 0, 0), none, none, some (.ifCond .ne 10, 3, [28], 0, 0), none, none, some (.aload_n 0, 1, [0], 0, 0), some (.bipush 6, 2, [], 6, 0), none, some (.invokevirtual 342, 3, [0, 168, 2, 0], 0, 0), none, none, some (.ireturn, 1, [], 0, 0), some (.aload_n 0, 1, [0], 0, 0), some (.iload_n 1, 1, [1], 0, 0), some (.iload_n 2, 1, [2], 0, 0), some (.invokevirtual 454, 3, [0, 227, 3, 3], 0, 0)],
  [none, none, some (.aload_n 0, 1, [0], 0, 0), some (.aload_n 0, 1, [0], 0, 0), some (.aload_n 0, 1, [0], 0, 0), some (.getfield 427, 3, [12, 67, 0], 0, 0), none, none, some (.iconst 0, 1, [], 0, 0), some (.invokevirtual 458, 3, [0, 233, 3, 1], 0, 0), none, none, some (.l2i, 1, [], 0, 0), some (.invokevirtual 180, 3, [0, 169, 2, 0], 0, 0), none, none, some (.ireturn, 1, [], 0, 0)]]
def f_M_slips (N : Nat) (a1 : Int32) (a2 : Int32) (h : MH) : Option (Int32 × MH) :=
  (f_M_areYears N a1 a2 h).bind (fun x1 =>
  if x1.1 = 0 then
  ((f_M_refuse N 1 x1.2).bind (fun x2 =>
  some (x2.1, x2.2)))
  else
  (if (gI x1.2 68 32) = 0 then
  ((f_M_refuse N 6 x1.2).bind (fun x3 =>
  some (x3.1, x3.2)))
  else
  ((f_M_see N a1 a2 x1.2).bind (fun x4 =>
  (f_M_count N (gI x4 68 67) 0 x4).bind (fun x5 =>
  (f_M_gives N (Int64.toInt32 x5.1) x5.2).bind (fun x6 =>
  some (x6.1, x6.2)))))))
def C_M_slips (N : Nat) : MC := (KDL, false, (fun _ => 0), jsB, (fun j => match Nat.beq j 168 with
    | true => w_M_refuse (f_M_refuse N)
    | false => match Nat.beq j 169 with
    | true => w_M_gives (f_M_gives N)
    | false => match Nat.beq j 234 with
    | true => w_M_areYears (f_M_areYears N)
    | false => fun _ _ => none), (fun j => match Nat.beq j 233 with
    | true => w_M_count (f_M_count N)
    | false => fun _ _ => none), (fun _ _ _ => none), (fun j => match Nat.beq j 227 with
    | true => w_M_see (f_M_see N)
    | false => fun _ _ => none))
def D_M_slips (N : Nat) (n pc : Nat) (lv : ML) (st : List MV) (h : MH) : Option (Int32 × MH) :=
  match Nat.beq pc 0 with
  | true => (match lk lv 0, lk lv 1, lk lv 2, st with
    | some (.inr (.inr (0, 12, 68))), some (.inl a1), some (.inl a2), [] => f_M_slips N a1 a2 h
    | _, _, _, _ => none)
  | false => none
set_option maxRecDepth 1000000 in
theorem E_M_slips_0 (N : Nat) (n : Nat) (a1 : Int32) (a2 : Int32) (h : MH) : seg (C_M_slips N) 3 0 rI T_M_slips [0] (fun q lv st h => match Nat.ble 1 q with
    | true => D_M_slips N n q lv st h
    | false => none) 400 true 0 [(0, .inr (.inr (0, 12, 68))), (1, .inl a1), (2, .inl a2)] [] h = f_M_slips N a1 a2 h := (rfl)
def T_M_ends : List (List (Option RW)) := [
  [some (.iload_n 1, 1, [1], 0, 0), some (.iload_n 2, 1, [2], 0, 0), some (.invokestatic 451, 3, [2, 234, 2, 0], 0, 0), none, none, some (.ifCond .eq 22, 3, [27], 0, 0), none, none, some (.aload_n 0, 1, [0], 0, 0), some (.iload_n 3, 1, [3], 0, 0), some (.invokevirtual 462, 3, [0, 235, 2, 0], 0, 0), none, none, some (.ifCond .eq 14, 3, [27], 0, 0), none, none, some (.iload 4, 2, [4], 0, 0), none, some (.ifCond .lt 9, 3, [27], 0, 0), none, none, some (.iload 4, 2, [4], 0, 0), none, some (.iconst 1, 1, [], 1, 0), some (.if_icmp .le 9, 3, [33], 0, 0), none, none, some (.aload_n 0, 1, [0], 0, 0), some (.iconst 1, 1, [], 1, 0), some (.invokevirtual 342, 3, [0, 168, 2, 0], 0, 0), none, none],
  [some (.ireturn, 1, [], 0, 0), some (.aload_n 0, 1, [0], 0, 0), some (.iload_n 1, 1, [1], 0, 0), some (.iload_n 2, 1, [2], 0, 0), some (.invokevirtual 454, 3, [0, 227, 3, 3], 0, 0), none, none, some (.aload_n 0, 1, [0], 0, 0), some (.aload_n 0, 1, [0], 0, 0), some (.getfield 427, 3, [12, 67, 0], 0, 0), none, none, some (.iload_n 3, 1, [3], 0, 0), some (.invokevirtual 458, 3, [0, 233, 3, 1], 0, 0), none, none, some (.lconst 0, 1, [], 0, 0), some (.lcmp, 1, [], 0, 0), some (.ifCond .ne 10, 3, [60], 0, 0), none, none, some (.aload_n 0, 1, [0], 0, 0), some (.bipush 6, 2, [], 6, 0), none, some (.invokevirtual 342, 3, [0, 168, 2, 0], 0, 0), none, none, some (.ireturn, 1, [], 0, 0), some (.iconst (-1), 1, [], (-1), 0), some (.istore 5, 2, [5], 0, 0), none, some (.iconst 0, 1, [], 0, 0)],
  [some (.istore 6, 2, [6], 0, 0), none, some (.iload 6, 2, [6], 0, 0), none, some (.bipush 55, 2, [], 55, 0), none, some (.if_icmp .ge 37, 3, [107], 0, 0), none, none, some (.aload_n 0, 1, [0], 0, 0), some (.getfield 144, 3, [12, 72, 2, 2, 55, 39], 0, 0), none, none, some (.iload 6, 2, [6], 0, 0), none, some (.laload, 1, [], 0, 0), some (.lconst 0, 1, [], 0, 0), some (.lcmp, 1, [], 0, 0), some (.ifCond .le 19, 3, [101], 0, 0), none, none, some (.iload 5, 2, [5], 0, 0), none, some (.iconst (-1), 1, [], (-1), 0), some (.if_icmp .eq 9, 3, [97], 0, 0), none, none, some (.iload 4, 2, [4], 0, 0), none, some (.iconst 1, 1, [], 1, 0), some (.if_icmp .ne 7, 3, [101], 0, 0), none],
  [none, some (.iload 6, 2, [6], 0, 0), none, some (.istore 5, 2, [5], 0, 0), none, some (.iinc 6 1, 3, [6], 1, 0), none, none, some (.goto (-38), 3, [66], 0, 0), none, none, some (.aload_n 0, 1, [0], 0, 0), some (.iload 5, 2, [5], 0, 0), none, some (.invokevirtual 180, 3, [0, 169, 2, 0], 0, 0), none, none, some (.ireturn, 1, [], 0, 0)]]
def F_M_ends_66 (N : Nat) (bk : (Int32 → Int32 → Int32 → MH → Option (Int32 × MH))) (a4 : Int32) (a5 : Int32) (a6 : Int32) (h : MH) : Option (Int32 × MH) :=
  if 55 ≤ a6 then
  ((f_M_gives N a5 h).bind (fun x10 =>
  some (x10.1, x10.2)))
  else
  (if inB a6 55 = true then
  (if (lg_cmp (gJ h 107 (iN a6)) 0) ≤ 0 then
  (let v11 : Int32 := a6 + 1
  bk a4 a5 v11 h)
  else
  (if a5 = ((-1)) then
  (let v12 : Int32 := a6 + 1
  bk a4 a6 v12 h)
  else
  (if a4 = 1 then
  (let v13 : Int32 := a6 + 1
  bk a4 a6 v13 h)
  else
  (let v14 : Int32 := a6 + 1
  bk a4 a5 v14 h))))
  else none)
def F_M_ends_0 (N : Nat) (bk : (Int32 → Int32 → Int32 → MH → Option (Int32 × MH))) (a1 : Int32) (a2 : Int32) (a3 : Int32) (a4 : Int32) (h : MH) : Option (Int32 × MH) :=
  (f_M_areYears N a1 a2 h).bind (fun x1 =>
  if x1.1 = 0 then
  ((f_M_refuse N 1 x1.2).bind (fun x2 =>
  some (x2.1, x2.2)))
  else
  ((f_M_areCells N a3 x1.2).bind (fun x3 =>
  if x3.1 = 0 then
  ((f_M_refuse N 1 x3.2).bind (fun x4 =>
  some (x4.1, x4.2)))
  else
  (if a4 < 0 then
  ((f_M_refuse N 1 x3.2).bind (fun x5 =>
  some (x5.1, x5.2)))
  else
  (if a4 ≤ 1 then
  ((f_M_see N a1 a2 x3.2).bind (fun x6 =>
  (f_M_count N (gI x6 68 67) a3 x6).bind (fun x7 =>
  if (lg_cmp x7.1 0) = 0 then
  ((f_M_refuse N 6 x7.2).bind (fun x8 =>
  some (x8.1, x8.2)))
  else
  (F_M_ends_66 N bk a4 ((-1)) 0 x7.2))))
  else
  ((f_M_refuse N 1 x3.2).bind (fun x9 =>
  some (x9.1, x9.2))))))))
def L_M_ends (N : Nat) : Nat → (Int32 → Int32 → Int32 → MH → Option (Int32 × MH))
  | 0 => fun _ _ _ _ => none
  | n + 1 => F_M_ends_66 N (L_M_ends N n)
def f_M_ends (N : Nat) (a1 : Int32) (a2 : Int32) (a3 : Int32) (a4 : Int32) (h : MH) : Option (Int32 × MH) := F_M_ends_0 N (L_M_ends N N) a1 a2 a3 a4 h
def C_M_ends (N : Nat) : MC := (KDL, false, (fun _ => 0), jsB, (fun j => match Nat.beq j 168 with
    | true => w_M_refuse (f_M_refuse N)
    | false => match Nat.beq j 169 with
    | true => w_M_gives (f_M_gives N)
    | false => match Nat.beq j 234 with
    | true => w_M_areYears (f_M_areYears N)
    | false => match Nat.beq j 235 with
    | true => w_M_areCells (f_M_areCells N)
    | false => fun _ _ => none), (fun j => match Nat.beq j 233 with
    | true => w_M_count (f_M_count N)
    | false => fun _ _ => none), (fun _ _ _ => none), (fun j => match Nat.beq j 227 with
    | true => w_M_see (f_M_see N)
    | false => fun _ _ => none))
def D_M_ends (N : Nat) (n pc : Nat) (lv : ML) (st : List MV) (h : MH) : Option (Int32 × MH) :=
  match Nat.beq pc 0 with
  | true => (match lk lv 0, lk lv 1, lk lv 2, lk lv 3, lk lv 4, st with
    | some (.inr (.inr (0, 12, 68))), some (.inl a1), some (.inl a2), some (.inl a3), some (.inl a4), [] => F_M_ends_0 N (L_M_ends N n) a1 a2 a3 a4 h
    | _, _, _, _, _, _ => none)
  | false => match Nat.beq pc 66 with
  | true => (match lk lv 0, lk lv 4, lk lv 5, lk lv 6, st with
    | some (.inr (.inr (0, 12, 68))), some (.inl a4), some (.inl a5), some (.inl a6), [] => F_M_ends_66 N (L_M_ends N n) a4 a5 a6 h
    | _, _, _, _, _ => none)
  | false => none
def B_M_ends (N : Nat) (n pc : Nat) (lv : ML) (st : List MV) (h : MH) : Option (Int32 × MH) :=
  match Nat.beq pc 66 with
  | true => (match lk lv 0, lk lv 4, lk lv 5, lk lv 6, st with
    | some (.inr (.inr (0, 12, 68))), some (.inl a4), some (.inl a5), some (.inl a6), [] => ((L_M_ends N n)) a4 a5 a6 h
    | _, _, _, _, _ => none)
  | false => none
set_option maxRecDepth 1000000 in
theorem E_M_ends_0 (N : Nat) (n : Nat) (a1 : Int32) (a2 : Int32) (a3 : Int32) (a4 : Int32) (h : MH) : seg (C_M_ends N) 7 0 rI T_M_ends [0, 66] (fun q lv st h => match Nat.ble 1 q with
    | true => D_M_ends N n q lv st h
    | false => B_M_ends N n q lv st h) 400 true 0 [(0, .inr (.inr (0, 12, 68))), (1, .inl a1), (2, .inl a2), (3, .inl a3), (4, .inl a4)] [] h = F_M_ends_0 N (L_M_ends N n) a1 a2 a3 a4 h := (rfl)
set_option maxRecDepth 1000000 in
theorem E_M_ends_66 (N : Nat) (n : Nat) (a4 : Int32) (a5 : Int32) (a6 : Int32) (h : MH) : seg (C_M_ends N) 7 0 rI T_M_ends [0, 66] (fun q lv st h => match Nat.ble 67 q with
    | true => D_M_ends N n q lv st h
    | false => B_M_ends N n q lv st h) 400 true 66 [(0, .inr (.inr (0, 12, 68))), (4, .inl a4), (5, .inl a5), (6, .inl a6)] [] h = F_M_ends_66 N (L_M_ends N n) a4 a5 a6 h := (rfl)
def T_M_first : List (List (Option RW)) := [
  [some (.iload_n 1, 1, [1], 0, 0), some (.iload_n 2, 1, [2], 0, 0), some (.invokestatic 451, 3, [2, 234, 2, 0], 0, 0), none, none, some (.ifCond .eq 11, 3, [16], 0, 0), none, none, some (.aload_n 0, 1, [0], 0, 0), some (.iload_n 3, 1, [3], 0, 0), some (.invokevirtual 363, 3, [0, 206, 2, 0], 0, 0), none, none, some (.ifCond .ne 9, 3, [22], 0, 0), none, none, some (.aload_n 0, 1, [0], 0, 0), some (.iconst 1, 1, [], 1, 0), some (.invokevirtual 342, 3, [0, 168, 2, 0], 0, 0), none, none, some (.ireturn, 1, [], 0, 0), some (.aload_n 0, 1, [0], 0, 0), some (.iload_n 1, 1, [1], 0, 0), some (.iload_n 2, 1, [2], 0, 0), some (.invokevirtual 454, 3, [0, 227, 3, 3], 0, 0), none, none, some (.aload_n 0, 1, [0], 0, 0), some (.aload_n 0, 1, [0], 0, 0), some (.getfield 427, 3, [12, 67, 0], 0, 0), none],
  [none, some (.iconst 0, 1, [], 0, 0), some (.invokevirtual 458, 3, [0, 233, 3, 1], 0, 0), none, none, some (.lconst 0, 1, [], 0, 0), some (.lcmp, 1, [], 0, 0), some (.ifCond .ne 12, 3, [51], 0, 0), none, none, some (.aload_n 0, 1, [0], 0, 0), some (.bipush 6, 2, [], 6, 0), none, some (.invokevirtual 342, 3, [0, 168, 2, 0], 0, 0), none, none, some (.goto 13, 3, [61], 0, 0), none, none, some (.aload_n 0, 1, [0], 0, 0), some (.aload_n 0, 1, [0], 0, 0), some (.getfield 147, 3, [12, 73, 2, 1, 6, 40], 0, 0), none, none, some (.iload_n 3, 1, [3], 0, 0), some (.iaload, 1, [], 0, 0), some (.invokevirtual 180, 3, [0, 169, 2, 0], 0, 0), none, none, some (.ireturn, 1, [], 0, 0)]]
def f_M_first (N : Nat) (a1 : Int32) (a2 : Int32) (a3 : Int32) (h : MH) : Option (Int32 × MH) :=
  (f_M_areYears N a1 a2 h).bind (fun x1 =>
  if x1.1 = 0 then
  ((f_M_refuse N 1 x1.2).bind (fun x2 =>
  some (x2.1, x2.2)))
  else
  ((f_M_isCell N a3 x1.2).bind (fun x3 =>
  if x3.1 = 0 then
  ((f_M_refuse N 1 x3.2).bind (fun x4 =>
  some (x4.1, x4.2)))
  else
  ((f_M_see N a1 a2 x3.2).bind (fun x5 =>
  (f_M_count N (gI x5 68 67) 0 x5).bind (fun x6 =>
  if (lg_cmp x6.1 0) = 0 then
  ((f_M_refuse N 6 x6.2).bind (fun x7 =>
  some (x7.1, x7.2)))
  else
  (if inB a3 6 = true then
  ((f_M_gives N (gI x6.2 108 (iN a3)) x6.2).bind (fun x8 =>
  some (x8.1, x8.2)))
  else none)))))))
def C_M_first (N : Nat) : MC := (KDL, false, (fun _ => 0), jsB, (fun j => match Nat.beq j 168 with
    | true => w_M_refuse (f_M_refuse N)
    | false => match Nat.beq j 169 with
    | true => w_M_gives (f_M_gives N)
    | false => match Nat.beq j 206 with
    | true => w_M_isCell (f_M_isCell N)
    | false => match Nat.beq j 234 with
    | true => w_M_areYears (f_M_areYears N)
    | false => fun _ _ => none), (fun j => match Nat.beq j 233 with
    | true => w_M_count (f_M_count N)
    | false => fun _ _ => none), (fun _ _ _ => none), (fun j => match Nat.beq j 227 with
    | true => w_M_see (f_M_see N)
    | false => fun _ _ => none))
def D_M_first (N : Nat) (n pc : Nat) (lv : ML) (st : List MV) (h : MH) : Option (Int32 × MH) :=
  match Nat.beq pc 0 with
  | true => (match lk lv 0, lk lv 1, lk lv 2, lk lv 3, st with
    | some (.inr (.inr (0, 12, 68))), some (.inl a1), some (.inl a2), some (.inl a3), [] => f_M_first N a1 a2 a3 h
    | _, _, _, _, _ => none)
  | false => none
set_option maxRecDepth 1000000 in
theorem E_M_first_0 (N : Nat) (n : Nat) (a1 : Int32) (a2 : Int32) (a3 : Int32) (h : MH) : seg (C_M_first N) 4 0 rI T_M_first [0] (fun q lv st h => match Nat.ble 1 q with
    | true => D_M_first N n q lv st h
    | false => none) 400 true 0 [(0, .inr (.inr (0, 12, 68))), (1, .inl a1), (2, .inl a2), (3, .inl a3)] [] h = f_M_first N a1 a2 a3 h := (rfl)
def T_M_corner : List (List (Option RW)) := [
  [some (.iload_n 1, 1, [1], 0, 0), some (.iload_n 2, 1, [2], 0, 0), some (.invokestatic 451, 3, [2, 234, 2, 0], 0, 0), none, none, some (.ifCond .ne 9, 3, [14], 0, 0), none, none, some (.aload_n 0, 1, [0], 0, 0), some (.iconst 1, 1, [], 1, 0), some (.invokevirtual 342, 3, [0, 168, 2, 0], 0, 0), none, none, some (.ireturn, 1, [], 0, 0), some (.aload_n 0, 1, [0], 0, 0), some (.getfield 348, 3, [12, 32, 0], 0, 0), none, none, some (.ifCond .ne 10, 3, [28], 0, 0), none, none, some (.aload_n 0, 1, [0], 0, 0), some (.bipush 6, 2, [], 6, 0), none, some (.invokevirtual 342, 3, [0, 168, 2, 0], 0, 0), none, none, some (.ireturn, 1, [], 0, 0), some (.aload_n 0, 1, [0], 0, 0), some (.iload_n 1, 1, [1], 0, 0), some (.iload_n 2, 1, [2], 0, 0), some (.invokevirtual 454, 3, [0, 227, 3, 3], 0, 0)],
  [none, none, some (.iconst (-1), 1, [], (-1), 0), some (.istore_n 3, 1, [3], 0, 0), some (.aload_n 0, 1, [0], 0, 0), some (.invokevirtual 436, 3, [0, 228, 1, 0], 0, 0), none, none, some (.istore 4, 2, [4], 0, 0), none, some (.iconst 0, 1, [], 0, 0), some (.istore 5, 2, [5], 0, 0), none, some (.iload 5, 2, [5], 0, 0), none, some (.iload 4, 2, [4], 0, 0), none, some (.if_icmp .ge 53, 3, [102], 0, 0), none, none, some (.aload_n 0, 1, [0], 0, 0), some (.iload 5, 2, [5], 0, 0), none, some (.invokevirtual 439, 3, [0, 229, 2, 3], 0, 0), none, none, some (.aload_n 0, 1, [0], 0, 0), some (.aload_n 0, 1, [0], 0, 0), some (.getfield 427, 3, [12, 67, 0], 0, 0), none, none, some (.invokevirtual 445, 3, [0, 231, 2, 0], 0, 0)],
  [none, none, some (.aload_n 0, 1, [0], 0, 0), some (.getfield 427, 3, [12, 67, 0], 0, 0), none, none, some (.if_icmp .eq 6, 3, [76], 0, 0), none, none, some (.goto 23, 3, [96], 0, 0), none, none, some (.aload_n 0, 1, [0], 0, 0), some (.invokevirtual 442, 3, [0, 230, 1, 0], 0, 0), none, none, some (.istore 6, 2, [6], 0, 0), none, some (.iload_n 3, 1, [3], 0, 0), some (.iconst (-1), 1, [], (-1), 0), some (.if_icmp .eq 9, 3, [93], 0, 0), none, none, some (.iload 6, 2, [6], 0, 0), none, some (.iload_n 3, 1, [3], 0, 0), some (.if_icmp .ge 6, 3, [96], 0, 0), none, none, some (.iload 6, 2, [6], 0, 0), none, some (.istore_n 3, 1, [3], 0, 0)],
  [some (.iinc 5 1, 3, [5], 1, 0), none, none, some (.goto (-54), 3, [45], 0, 0), none, none, some (.iload_n 3, 1, [3], 0, 0), some (.iconst (-1), 1, [], (-1), 0), some (.if_icmp .ne 12, 3, [116], 0, 0), none, none, some (.aload_n 0, 1, [0], 0, 0), some (.bipush 6, 2, [], 6, 0), none, some (.invokevirtual 342, 3, [0, 168, 2, 0], 0, 0), none, none, some (.goto 8, 3, [121], 0, 0), none, none, some (.aload_n 0, 1, [0], 0, 0), some (.iload_n 3, 1, [3], 0, 0), some (.invokevirtual 180, 3, [0, 169, 2, 0], 0, 0), none, none, some (.ireturn, 1, [], 0, 0)]]
def F_M_corner_45 (N : Nat) (bk : (Int32 → Int32 → Int32 → MH → Option (Int32 × MH))) (a3 : Int32) (a4 : Int32) (a5 : Int32) (h : MH) : Option (Int32 × MH) :=
  if a4 ≤ a5 then
  (if a3 = ((-1)) then
  ((f_M_refuse N 6 h).bind (fun x6 =>
  some (x6.1, x6.2)))
  else
  ((f_M_gives N a3 h).bind (fun x7 =>
  some (x7.1, x7.2))))
  else
  ((f_M_lay N a5 h).bind (fun x8 =>
  (f_M_fitting N (gI x8 68 67) x8).bind (fun x9 =>
  if x9.1 = (gI x9.2 68 67) then
  ((f_M_bend N x9.2).bind (fun x10 =>
  if a3 = ((-1)) then
  (let v11 : Int32 := a5 + 1
  bk x10.1 a4 v11 x10.2)
  else
  (if a3 ≤ x10.1 then
  (let v12 : Int32 := a5 + 1
  bk a3 a4 v12 x10.2)
  else
  (let v13 : Int32 := a5 + 1
  bk x10.1 a4 v13 x10.2))))
  else
  (let v14 : Int32 := a5 + 1
  bk a3 a4 v14 x9.2))))
def F_M_corner_0 (N : Nat) (bk : (Int32 → Int32 → Int32 → MH → Option (Int32 × MH))) (a1 : Int32) (a2 : Int32) (h : MH) : Option (Int32 × MH) :=
  (f_M_areYears N a1 a2 h).bind (fun x1 =>
  if x1.1 = 0 then
  ((f_M_refuse N 1 x1.2).bind (fun x2 =>
  some (x2.1, x2.2)))
  else
  (if (gI x1.2 68 32) = 0 then
  ((f_M_refuse N 6 x1.2).bind (fun x3 =>
  some (x3.1, x3.2)))
  else
  ((f_M_see N a1 a2 x1.2).bind (fun x4 =>
  (f_M_rowsOfSlips N x4).bind (fun x5 =>
  F_M_corner_45 N bk ((-1)) x5.1 0 x5.2)))))
def L_M_corner (N : Nat) : Nat → (Int32 → Int32 → Int32 → MH → Option (Int32 × MH))
  | 0 => fun _ _ _ _ => none
  | n + 1 => F_M_corner_45 N (L_M_corner N n)
def f_M_corner (N : Nat) (a1 : Int32) (a2 : Int32) (h : MH) : Option (Int32 × MH) := F_M_corner_0 N (L_M_corner N N) a1 a2 h
def C_M_corner (N : Nat) : MC := (KDL, false, (fun _ => 0), jsB, (fun j => match Nat.beq j 168 with
    | true => w_M_refuse (f_M_refuse N)
    | false => match Nat.beq j 169 with
    | true => w_M_gives (f_M_gives N)
    | false => match Nat.beq j 228 with
    | true => w_M_rowsOfSlips (f_M_rowsOfSlips N)
    | false => match Nat.beq j 230 with
    | true => w_M_bend (f_M_bend N)
    | false => match Nat.beq j 231 with
    | true => w_M_fitting (f_M_fitting N)
    | false => match Nat.beq j 234 with
    | true => w_M_areYears (f_M_areYears N)
    | false => fun _ _ => none), (fun _ _ _ => none), (fun _ _ _ => none), (fun j => match Nat.beq j 227 with
    | true => w_M_see (f_M_see N)
    | false => match Nat.beq j 229 with
    | true => w_M_lay (f_M_lay N)
    | false => fun _ _ => none))
def D_M_corner (N : Nat) (n pc : Nat) (lv : ML) (st : List MV) (h : MH) : Option (Int32 × MH) :=
  match Nat.beq pc 0 with
  | true => (match lk lv 0, lk lv 1, lk lv 2, st with
    | some (.inr (.inr (0, 12, 68))), some (.inl a1), some (.inl a2), [] => F_M_corner_0 N (L_M_corner N n) a1 a2 h
    | _, _, _, _ => none)
  | false => match Nat.beq pc 45 with
  | true => (match lk lv 0, lk lv 3, lk lv 4, lk lv 5, st with
    | some (.inr (.inr (0, 12, 68))), some (.inl a3), some (.inl a4), some (.inl a5), [] => F_M_corner_45 N (L_M_corner N n) a3 a4 a5 h
    | _, _, _, _, _ => none)
  | false => none
def B_M_corner (N : Nat) (n pc : Nat) (lv : ML) (st : List MV) (h : MH) : Option (Int32 × MH) :=
  match Nat.beq pc 45 with
  | true => (match lk lv 0, lk lv 3, lk lv 4, lk lv 5, st with
    | some (.inr (.inr (0, 12, 68))), some (.inl a3), some (.inl a4), some (.inl a5), [] => ((L_M_corner N n)) a3 a4 a5 h
    | _, _, _, _, _ => none)
  | false => none
set_option maxRecDepth 1000000 in
theorem E_M_corner_0 (N : Nat) (n : Nat) (a1 : Int32) (a2 : Int32) (h : MH) : seg (C_M_corner N) 7 0 rI T_M_corner [0, 45] (fun q lv st h => match Nat.ble 1 q with
    | true => D_M_corner N n q lv st h
    | false => B_M_corner N n q lv st h) 400 true 0 [(0, .inr (.inr (0, 12, 68))), (1, .inl a1), (2, .inl a2)] [] h = F_M_corner_0 N (L_M_corner N n) a1 a2 h := (rfl)
set_option maxRecDepth 1000000 in
theorem E_M_corner_45 (N : Nat) (n : Nat) (a3 : Int32) (a4 : Int32) (a5 : Int32) (h : MH) : seg (C_M_corner N) 7 0 rI T_M_corner [0, 45] (fun q lv st h => match Nat.ble 46 q with
    | true => D_M_corner N n q lv st h
    | false => B_M_corner N n q lv st h) 400 true 45 [(0, .inr (.inr (0, 12, 68))), (3, .inl a3), (4, .inl a4), (5, .inl a5)] [] h = F_M_corner_45 N (L_M_corner N n) a3 a4 a5 h := (rfl)
def T_M_findSets : List (List (Option RW)) := [
  [some (.iconst 0, 1, [], 0, 0), some (.istore_n 1, 1, [1], 0, 0), some (.iload_n 1, 1, [1], 0, 0), some (.sipush 256, 3, [], 256, 0), none, none, some (.if_icmp .ge 16, 3, [22], 0, 0), none, none, some (.aload_n 0, 1, [0], 0, 0), some (.getfield 141, 3, [12, 71, 2, 4, 256, 38], 0, 0), none, none, some (.iload_n 1, 1, [1], 0, 0), some (.iconst 0, 1, [], 0, 0), some (.bastore, 1, [], 0, 0), some (.iinc 1 1, 3, [1], 1, 0), none, none, some (.goto (-17), 3, [2], 0, 0), none, none, some (.aload_n 0, 1, [0], 0, 0), some (.invokevirtual 436, 3, [0, 228, 1, 0], 0, 0), none, none, some (.istore_n 1, 1, [1], 0, 0), some (.iconst 0, 1, [], 0, 0), some (.istore_n 2, 1, [2], 0, 0), some (.iload_n 2, 1, [2], 0, 0), some (.iload_n 1, 1, [1], 0, 0), some (.if_icmp .ge 39, 3, [70], 0, 0)],
  [none, none, some (.aload_n 0, 1, [0], 0, 0), some (.iload_n 2, 1, [2], 0, 0), some (.invokevirtual 439, 3, [0, 229, 2, 3], 0, 0), none, none, some (.aload_n 0, 1, [0], 0, 0), some (.invokevirtual 442, 3, [0, 230, 1, 0], 0, 0), none, none, some (.aload_n 0, 1, [0], 0, 0), some (.getfield 129, 3, [12, 66, 0], 0, 0), none, none, some (.if_icmp .gt 17, 3, [64], 0, 0), none, none, some (.aload_n 0, 1, [0], 0, 0), some (.getfield 141, 3, [12, 71, 2, 4, 256, 38], 0, 0), none, none, some (.aload_n 0, 1, [0], 0, 0), some (.aload_n 0, 1, [0], 0, 0), some (.getfield 427, 3, [12, 67, 0], 0, 0), none, none, some (.invokevirtual 445, 3, [0, 231, 2, 0], 0, 0), none, none, some (.iconst 1, 1, [], 1, 0), some (.bastore, 1, [], 0, 0)],
  [some (.iinc 2 1, 3, [2], 1, 0), none, none, some (.goto (-38), 3, [29], 0, 0), none, none, some (.iconst 0, 1, [], 0, 0), some (.istore_n 2, 1, [2], 0, 0), some (.iload_n 2, 1, [2], 0, 0), some (.bipush 8, 2, [], 8, 0), none, some (.if_icmp .ge 52, 3, [127], 0, 0), none, none, some (.iconst 0, 1, [], 0, 0), some (.istore_n 3, 1, [3], 0, 0), some (.iload_n 3, 1, [3], 0, 0), some (.sipush 256, 3, [], 256, 0), none, none, some (.if_icmp .ge 37, 3, [121], 0, 0), none, none, some (.iload_n 3, 1, [3], 0, 0), some (.iload_n 2, 1, [2], 0, 0), some (.ishr, 1, [], 0, 0), some (.iconst 1, 1, [], 1, 0), some (.iand, 1, [], 0, 0), some (.ifCond .ne 23, 3, [115], 0, 0), none, none, some (.aload_n 0, 1, [0], 0, 0)],
  [some (.getfield 141, 3, [12, 71, 2, 4, 256, 38], 0, 0), none, none, some (.iload_n 3, 1, [3], 0, 0), some (.iconst 1, 1, [], 1, 0), some (.iload_n 2, 1, [2], 0, 0), some (.ishl, 1, [], 0, 0), some (.ior, 1, [], 0, 0), some (.baload, 1, [], 0, 0), some (.ifCond .eq 10, 3, [115], 0, 0), none, none, some (.aload_n 0, 1, [0], 0, 0), some (.getfield 141, 3, [12, 71, 2, 4, 256, 38], 0, 0), none, none, some (.iload_n 3, 1, [3], 0, 0), some (.iconst 1, 1, [], 1, 0), some (.bastore, 1, [], 0, 0), some (.iinc 3 1, 3, [3], 1, 0), none, none, some (.goto (-38), 3, [80], 0, 0), none, none, some (.iinc 2 1, 3, [2], 1, 0), none, none, some (.goto (-52), 3, [72], 0, 0), none, none, some (.return_, 1, [], 0, 0)]]
def F_M_findSets_80 (N : Nat) (bk : (Int32 → MH → Option (MH)) × (Int32 → Int32 → MH → Option (MH)) × (Int32 → MH → Option (MH)) × (Int32 → Int32 → MH → Option (MH))) (a2 : Int32) (a3 : Int32) (h : MH) : Option (MH) :=
  if 256 ≤ a3 then
  (let v10 : Int32 := a2 + 1
  (bk.2.2.1) v10 h)
  else
  (if ((a3 >>> (a2 &&& 31)) &&& 1) = 0 then
  (if inB (a3 ||| ((1 : Int32) <<< (a2 &&& 31))) 256 = true then
  (if (gI h 106 (iN (a3 ||| ((1 : Int32) <<< (a2 &&& 31))))) = 0 then
  (let v11 : Int32 := a3 + 1
  (bk.2.2.2) a2 v11 h)
  else
  (if inB a3 256 = true then
  (let h12 : MH := sI h 106 (iN a3) ((1 : Int32) &&& 1)
  let v13 : Int32 := a3 + 1
  (bk.2.2.2) a2 v13 h12)
  else none))
  else none)
  else
  (let v14 : Int32 := a3 + 1
  (bk.2.2.2) a2 v14 h))
def F_M_findSets_72 (N : Nat) (bk : (Int32 → MH → Option (MH)) × (Int32 → Int32 → MH → Option (MH)) × (Int32 → MH → Option (MH)) × (Int32 → Int32 → MH → Option (MH))) (a2 : Int32) (h : MH) : Option (MH) :=
  if 8 ≤ a2 then
  (some h)
  else
  (F_M_findSets_80 N bk a2 0 h)
def F_M_findSets_29 (N : Nat) (bk : (Int32 → MH → Option (MH)) × (Int32 → Int32 → MH → Option (MH)) × (Int32 → MH → Option (MH)) × (Int32 → Int32 → MH → Option (MH))) (a1 : Int32) (a2 : Int32) (h : MH) : Option (MH) :=
  if a1 ≤ a2 then
  (F_M_findSets_72 N bk 0 h)
  else
  ((f_M_lay N a2 h).bind (fun x4 =>
  (f_M_bend N x4).bind (fun x5 =>
  if (gI x5.2 68 66) < x5.1 then
  (let v6 : Int32 := a2 + 1
  (bk.2.1) a1 v6 x5.2)
  else
  ((f_M_fitting N (gI x5.2 68 67) x5.2).bind (fun x7 =>
  if inB x7.1 256 = true then
  (let h8 : MH := sI x7.2 106 (iN x7.1) ((1 : Int32) &&& 1)
  let v9 : Int32 := a2 + 1
  (bk.2.1) a1 v9 h8)
  else none)))))
def F_M_findSets_2 (N : Nat) (bk : (Int32 → MH → Option (MH)) × (Int32 → Int32 → MH → Option (MH)) × (Int32 → MH → Option (MH)) × (Int32 → Int32 → MH → Option (MH))) (a1 : Int32) (h : MH) : Option (MH) :=
  if 256 ≤ a1 then
  ((f_M_rowsOfSlips N h).bind (fun x1 =>
  F_M_findSets_29 N bk x1.1 0 x1.2))
  else
  (if inB a1 256 = true then
  (let h2 : MH := sI h 106 (iN a1) ((0 : Int32) &&& 1)
  let v3 : Int32 := a1 + 1
  (bk.1) v3 h2)
  else none)
def F_M_findSets_0 (N : Nat) (bk : (Int32 → MH → Option (MH)) × (Int32 → Int32 → MH → Option (MH)) × (Int32 → MH → Option (MH)) × (Int32 → Int32 → MH → Option (MH))) (h : MH) : Option (MH) :=
  F_M_findSets_2 N bk 0 h
def L_M_findSets (N : Nat) : Nat → ((Int32 → MH → Option (MH)) × (Int32 → Int32 → MH → Option (MH)) × (Int32 → MH → Option (MH)) × (Int32 → Int32 → MH → Option (MH)))
  | 0 => (fun _ _ => none, fun _ _ _ => none, fun _ _ => none, fun _ _ _ => none)
  | n + 1 => (F_M_findSets_2 N (L_M_findSets N n), F_M_findSets_29 N (L_M_findSets N n), F_M_findSets_72 N (L_M_findSets N n), F_M_findSets_80 N (L_M_findSets N n))
def f_M_findSets (N : Nat) (h : MH) : Option (MH) := F_M_findSets_0 N (L_M_findSets N N) h
def C_M_findSets (N : Nat) : MC := (KDL, false, (fun _ => 0), jsB, (fun j => match Nat.beq j 228 with
    | true => w_M_rowsOfSlips (f_M_rowsOfSlips N)
    | false => match Nat.beq j 230 with
    | true => w_M_bend (f_M_bend N)
    | false => match Nat.beq j 231 with
    | true => w_M_fitting (f_M_fitting N)
    | false => fun _ _ => none), (fun _ _ _ => none), (fun _ _ _ => none), (fun j => match Nat.beq j 229 with
    | true => w_M_lay (f_M_lay N)
    | false => fun _ _ => none))
def D_M_findSets (N : Nat) (n pc : Nat) (lv : ML) (st : List MV) (h : MH) : Option (MH) :=
  match Nat.beq pc 0 with
  | true => (match lk lv 0, st with
    | some (.inr (.inr (0, 12, 68))), [] => F_M_findSets_0 N (L_M_findSets N n) h
    | _, _ => none)
  | false => match Nat.beq pc 2 with
  | true => (match lk lv 0, lk lv 1, st with
    | some (.inr (.inr (0, 12, 68))), some (.inl a1), [] => F_M_findSets_2 N (L_M_findSets N n) a1 h
    | _, _, _ => none)
  | false => match Nat.beq pc 29 with
  | true => (match lk lv 0, lk lv 1, lk lv 2, st with
    | some (.inr (.inr (0, 12, 68))), some (.inl a1), some (.inl a2), [] => F_M_findSets_29 N (L_M_findSets N n) a1 a2 h
    | _, _, _, _ => none)
  | false => match Nat.beq pc 72 with
  | true => (match lk lv 0, lk lv 2, st with
    | some (.inr (.inr (0, 12, 68))), some (.inl a2), [] => F_M_findSets_72 N (L_M_findSets N n) a2 h
    | _, _, _ => none)
  | false => match Nat.beq pc 80 with
  | true => (match lk lv 0, lk lv 2, lk lv 3, st with
    | some (.inr (.inr (0, 12, 68))), some (.inl a2), some (.inl a3), [] => F_M_findSets_80 N (L_M_findSets N n) a2 a3 h
    | _, _, _, _ => none)
  | false => none
def B_M_findSets (N : Nat) (n pc : Nat) (lv : ML) (st : List MV) (h : MH) : Option (MH) :=
  match Nat.beq pc 2 with
  | true => (match lk lv 0, lk lv 1, st with
    | some (.inr (.inr (0, 12, 68))), some (.inl a1), [] => ((L_M_findSets N n).1) a1 h
    | _, _, _ => none)
  | false => match Nat.beq pc 29 with
  | true => (match lk lv 0, lk lv 1, lk lv 2, st with
    | some (.inr (.inr (0, 12, 68))), some (.inl a1), some (.inl a2), [] => ((L_M_findSets N n).2.1) a1 a2 h
    | _, _, _, _ => none)
  | false => match Nat.beq pc 72 with
  | true => (match lk lv 0, lk lv 2, st with
    | some (.inr (.inr (0, 12, 68))), some (.inl a2), [] => ((L_M_findSets N n).2.2.1) a2 h
    | _, _, _ => none)
  | false => match Nat.beq pc 80 with
  | true => (match lk lv 0, lk lv 2, lk lv 3, st with
    | some (.inr (.inr (0, 12, 68))), some (.inl a2), some (.inl a3), [] => ((L_M_findSets N n).2.2.2) a2 a3 h
    | _, _, _, _ => none)
  | false => none
set_option maxRecDepth 1000000 in
theorem E_M_findSets_0 (N : Nat) (n : Nat) (h : MH) : seg (C_M_findSets N) 4 0 rV T_M_findSets [0, 2, 29, 72, 80] (fun q lv st h => match Nat.ble 1 q with
    | true => D_M_findSets N n q lv st h
    | false => B_M_findSets N n q lv st h) 400 true 0 [(0, .inr (.inr (0, 12, 68)))] [] h = F_M_findSets_0 N (L_M_findSets N n) h := (rfl)
set_option maxRecDepth 1000000 in
theorem E_M_findSets_2 (N : Nat) (n : Nat) (a1 : Int32) (h : MH) : seg (C_M_findSets N) 4 0 rV T_M_findSets [0, 2, 29, 72, 80] (fun q lv st h => match Nat.ble 3 q with
    | true => D_M_findSets N n q lv st h
    | false => B_M_findSets N n q lv st h) 400 true 2 [(0, .inr (.inr (0, 12, 68))), (1, .inl a1)] [] h = F_M_findSets_2 N (L_M_findSets N n) a1 h := (rfl)
set_option maxRecDepth 1000000 in
theorem E_M_findSets_29 (N : Nat) (n : Nat) (a1 : Int32) (a2 : Int32) (h : MH) : seg (C_M_findSets N) 4 0 rV T_M_findSets [0, 2, 29, 72, 80] (fun q lv st h => match Nat.ble 30 q with
    | true => D_M_findSets N n q lv st h
    | false => B_M_findSets N n q lv st h) 400 true 29 [(0, .inr (.inr (0, 12, 68))), (1, .inl a1), (2, .inl a2)] [] h = F_M_findSets_29 N (L_M_findSets N n) a1 a2 h := (rfl)
set_option maxRecDepth 1000000 in
theorem E_M_findSets_72 (N : Nat) (n : Nat) (a2 : Int32) (h : MH) : seg (C_M_findSets N) 4 0 rV T_M_findSets [0, 2, 29, 72, 80] (fun q lv st h => match Nat.ble 73 q with
    | true => D_M_findSets N n q lv st h
    | false => B_M_findSets N n q lv st h) 400 true 72 [(0, .inr (.inr (0, 12, 68))), (2, .inl a2)] [] h = F_M_findSets_72 N (L_M_findSets N n) a2 h := (rfl)
set_option maxRecDepth 1000000 in
theorem E_M_findSets_80 (N : Nat) (n : Nat) (a2 : Int32) (a3 : Int32) (h : MH) : seg (C_M_findSets N) 4 0 rV T_M_findSets [0, 2, 29, 72, 80] (fun q lv st h => match Nat.ble 81 q with
    | true => D_M_findSets N n q lv st h
    | false => B_M_findSets N n q lv st h) 400 true 80 [(0, .inr (.inr (0, 12, 68))), (2, .inl a2), (3, .inl a3)] [] h = F_M_findSets_80 N (L_M_findSets N n) a2 a3 h := (rfl)
def T_M_bits : List (List (Option RW)) := [
  [some (.iconst 0, 1, [], 0, 0), some (.istore_n 1, 1, [1], 0, 0), some (.iload_n 0, 1, [0], 0, 0), some (.istore_n 2, 1, [2], 0, 0), some (.iload_n 2, 1, [2], 0, 0), some (.ifCond .eq 15, 3, [20], 0, 0), none, none, some (.iinc 1 1, 3, [1], 1, 0), none, none, some (.iload_n 2, 1, [2], 0, 0), some (.iload_n 2, 1, [2], 0, 0), some (.iconst 1, 1, [], 1, 0), some (.isub, 1, [], 0, 0), some (.iand, 1, [], 0, 0), some (.istore_n 2, 1, [2], 0, 0), some (.goto (-13), 3, [4], 0, 0), none, none, some (.iload_n 1, 1, [1], 0, 0), some (.ireturn, 1, [], 0, 0)]]
def F_M_bits_4 (N : Nat) (bk : (Int32 → Int32 → MH → Option (Int32 × MH))) (a1 : Int32) (a2 : Int32) (h : MH) : Option (Int32 × MH) :=
  if a2 = 0 then
  (some (a1, h))
  else
  (let v1 : Int32 := a1 + 1
  let v2 : Int32 := a2 &&& (a2 - 1)
  bk v1 v2 h)
def F_M_bits_0 (N : Nat) (bk : (Int32 → Int32 → MH → Option (Int32 × MH))) (a0 : Int32) (h : MH) : Option (Int32 × MH) :=
  F_M_bits_4 N bk 0 a0 h
def L_M_bits (N : Nat) : Nat → (Int32 → Int32 → MH → Option (Int32 × MH))
  | 0 => fun _ _ _ => none
  | n + 1 => F_M_bits_4 N (L_M_bits N n)
def f_M_bits (N : Nat) (a0 : Int32) (h : MH) : Option (Int32 × MH) := F_M_bits_0 N (L_M_bits N N) a0 h
def C_M_bits (N : Nat) : MC := (KDL, false, (fun _ => 0), jsB, (fun _ _ _ => none), (fun _ _ _ => none), (fun _ _ _ => none), (fun _ _ _ => none))
def D_M_bits (N : Nat) (n pc : Nat) (lv : ML) (st : List MV) (h : MH) : Option (Int32 × MH) :=
  match Nat.beq pc 0 with
  | true => (match lk lv 0, st with
    | some (.inl a0), [] => F_M_bits_0 N (L_M_bits N n) a0 h
    | _, _ => none)
  | false => match Nat.beq pc 4 with
  | true => (match lk lv 1, lk lv 2, st with
    | some (.inl a1), some (.inl a2), [] => F_M_bits_4 N (L_M_bits N n) a1 a2 h
    | _, _, _ => none)
  | false => none
def B_M_bits (N : Nat) (n pc : Nat) (lv : ML) (st : List MV) (h : MH) : Option (Int32 × MH) :=
  match Nat.beq pc 4 with
  | true => (match lk lv 1, lk lv 2, st with
    | some (.inl a1), some (.inl a2), [] => ((L_M_bits N n)) a1 a2 h
    | _, _, _ => none)
  | false => none
set_option maxRecDepth 1000000 in
theorem E_M_bits_0 (N : Nat) (n : Nat) (a0 : Int32) (h : MH) : seg (C_M_bits N) 3 0 rI T_M_bits [0, 4] (fun q lv st h => match Nat.ble 1 q with
    | true => D_M_bits N n q lv st h
    | false => B_M_bits N n q lv st h) 400 true 0 [(0, .inl a0)] [] h = F_M_bits_0 N (L_M_bits N n) a0 h := (rfl)
set_option maxRecDepth 1000000 in
theorem E_M_bits_4 (N : Nat) (n : Nat) (a1 : Int32) (a2 : Int32) (h : MH) : seg (C_M_bits N) 3 0 rI T_M_bits [0, 4] (fun q lv st h => match Nat.ble 5 q with
    | true => D_M_bits N n q lv st h
    | false => B_M_bits N n q lv st h) 400 true 4 [(1, .inl a1), (2, .inl a2)] [] h = F_M_bits_4 N (L_M_bits N n) a1 a2 h := (rfl)
def T_M_quarrel : List (List (Option RW)) := [
  [some (.iload_n 1, 1, [1], 0, 0), some (.iload_n 2, 1, [2], 0, 0), some (.invokestatic 451, 3, [2, 234, 2, 0], 0, 0), none, none, some (.ifCond .eq 12, 3, [17], 0, 0), none, none, some (.iload_n 3, 1, [3], 0, 0), some (.ifCond .lt 8, 3, [17], 0, 0), none, none, some (.iload_n 3, 1, [3], 0, 0), some (.iconst 2, 1, [], 2, 0), some (.if_icmp .le 9, 3, [23], 0, 0), none, none, some (.aload_n 0, 1, [0], 0, 0), some (.iconst 1, 1, [], 1, 0), some (.invokevirtual 342, 3, [0, 168, 2, 0], 0, 0), none, none, some (.ireturn, 1, [], 0, 0), some (.aload_n 0, 1, [0], 0, 0), some (.getfield 348, 3, [12, 32, 0], 0, 0), none, none, some (.ifCond .ne 10, 3, [37], 0, 0), none, none, some (.aload_n 0, 1, [0], 0, 0), some (.bipush 6, 2, [], 6, 0)],
  [none, some (.invokevirtual 342, 3, [0, 168, 2, 0], 0, 0), none, none, some (.ireturn, 1, [], 0, 0), some (.aload_n 0, 1, [0], 0, 0), some (.iload_n 1, 1, [1], 0, 0), some (.iload_n 2, 1, [2], 0, 0), some (.invokevirtual 454, 3, [0, 227, 3, 3], 0, 0), none, none, some (.aload_n 0, 1, [0], 0, 0), some (.invokevirtual 465, 3, [0, 240, 1, 3], 0, 0), none, none, some (.aload_n 0, 1, [0], 0, 0), some (.getfield 141, 3, [12, 71, 2, 4, 256, 38], 0, 0), none, none, some (.aload_n 0, 1, [0], 0, 0), some (.getfield 427, 3, [12, 67, 0], 0, 0), none, none, some (.baload, 1, [], 0, 0), some (.ifCond .eq 10, 3, [66], 0, 0), none, none, some (.aload_n 0, 1, [0], 0, 0), some (.bipush 6, 2, [], 6, 0), none, some (.invokevirtual 342, 3, [0, 168, 2, 0], 0, 0), none],
  [none, some (.ireturn, 1, [], 0, 0), some (.iconst (-1), 1, [], (-1), 0), some (.istore 4, 2, [4], 0, 0), none, some (.iconst 0, 1, [], 0, 0), some (.istore 5, 2, [5], 0, 0), none, some (.iconst 0, 1, [], 0, 0), some (.istore 6, 2, [6], 0, 0), none, some (.iconst 0, 1, [], 0, 0), some (.istore 7, 2, [7], 0, 0), none, some (.iload 7, 2, [7], 0, 0), none, some (.aload_n 0, 1, [0], 0, 0), some (.getfield 427, 3, [12, 67, 0], 0, 0), none, none, some (.if_icmp .gt 82, 3, [166], 0, 0), none, none, some (.iload 7, 2, [7], 0, 0), none, some (.aload_n 0, 1, [0], 0, 0), some (.getfield 427, 3, [12, 67, 0], 0, 0), none, none, some (.iconst (-1), 1, [], (-1), 0), some (.ixor, 1, [], 0, 0), some (.iand, 1, [], 0, 0)],
  [some (.ifCond .ne 64, 3, [160], 0, 0), none, none, some (.aload_n 0, 1, [0], 0, 0), some (.getfield 141, 3, [12, 71, 2, 4, 256, 38], 0, 0), none, none, some (.iload 7, 2, [7], 0, 0), none, some (.baload, 1, [], 0, 0), some (.ifCond .eq 6, 3, [112], 0, 0), none, none, some (.goto 51, 3, [160], 0, 0), none, none, some (.iload 7, 2, [7], 0, 0), none, some (.invokestatic 468, 3, [2, 241, 1, 0], 0, 0), none, none, some (.istore 8, 2, [8], 0, 0), none, some (.iload 4, 2, [4], 0, 0), none, some (.iconst (-1), 1, [], (-1), 0), some (.if_icmp .eq 10, 3, [132], 0, 0), none, none, some (.iload 8, 2, [8], 0, 0), none, some (.iload 4, 2, [4], 0, 0)],
  [none, some (.if_icmp .ge 14, 3, [143], 0, 0), none, none, some (.iload 8, 2, [8], 0, 0), none, some (.istore 4, 2, [4], 0, 0), none, some (.iload 7, 2, [7], 0, 0), none, some (.istore 5, 2, [5], 0, 0), none, some (.iconst 0, 1, [], 0, 0), some (.istore 6, 2, [6], 0, 0), none, some (.iload 6, 2, [6], 0, 0), none, some (.iload 8, 2, [8], 0, 0), none, some (.iload 4, 2, [4], 0, 0), none, some (.if_icmp .ne 7, 3, [156], 0, 0), none, none, some (.iconst 1, 1, [], 1, 0), some (.goto 4, 3, [157], 0, 0), none, none, some (.iconst 0, 1, [], 0, 0), some (.iadd, 1, [], 0, 0), some (.istore 6, 2, [6], 0, 0), none],
  [some (.iinc 7 1, 3, [7], 1, 0), none, none, some (.goto (-85), 3, [78], 0, 0), none, none, some (.aload_n 0, 1, [0], 0, 0), some (.iload_n 3, 1, [3], 0, 0), some (.ifCond .ne 8, 3, [176], 0, 0), none, none, some (.iload 4, 2, [4], 0, 0), none, some (.goto 15, 3, [188], 0, 0), none, none, some (.iload_n 3, 1, [3], 0, 0), some (.iconst 1, 1, [], 1, 0), some (.if_icmp .ne 8, 3, [186], 0, 0), none, none, some (.iload 5, 2, [5], 0, 0), none, some (.goto 5, 3, [188], 0, 0), none, none, some (.iload 6, 2, [6], 0, 0), none, some (.invokevirtual 180, 3, [0, 169, 2, 0], 0, 0), none, none, some (.ireturn, 1, [], 0, 0)]]
def F_M_quarrel_143 (N : Nat) (bk : (Int32 → Int32 → Int32 → Int32 → Int32 → MH → Option (Int32 × MH))) (a3 : Int32) (a4 : Int32) (a5 : Int32) (a6 : Int32) (a7 : Int32) (a8 : Int32) (h : MH) : Option (Int32 × MH) :=
  if a8 = a4 then
  (let v15 : Int32 := a6 + 1
  let v16 : Int32 := a7 + 1
  bk a3 a4 a5 v15 v16 h)
  else
  (let v17 : Int32 := a6 + 0
  let v18 : Int32 := a7 + 1
  bk a3 a4 a5 v17 v18 h)
def F_M_quarrel_78 (N : Nat) (bk : (Int32 → Int32 → Int32 → Int32 → Int32 → MH → Option (Int32 × MH))) (a3 : Int32) (a4 : Int32) (a5 : Int32) (a6 : Int32) (a7 : Int32) (h : MH) : Option (Int32 × MH) :=
  if (gI h 68 67) < a7 then
  (if a3 = 0 then
  ((f_M_gives N a4 h).bind (fun x9 =>
  some (x9.1, x9.2)))
  else
  (if a3 = 1 then
  ((f_M_gives N a5 h).bind (fun x10 =>
  some (x10.1, x10.2)))
  else
  ((f_M_gives N a6 h).bind (fun x11 =>
  some (x11.1, x11.2)))))
  else
  (if (a7 &&& ((gI h 68 67) ^^^ ((-1)))) = 0 then
  (if inB a7 256 = true then
  (if (gI h 106 (iN a7)) = 0 then
  ((f_M_bits N a7 h).bind (fun x12 =>
  if a4 = ((-1)) then
  (F_M_quarrel_143 N bk a3 x12.1 a7 0 a7 x12.1 x12.2)
  else
  (if a4 ≤ x12.1 then
  (F_M_quarrel_143 N bk a3 a4 a5 a6 a7 x12.1 x12.2)
  else
  (F_M_quarrel_143 N bk a3 x12.1 a7 0 a7 x12.1 x12.2))))
  else
  (let v13 : Int32 := a7 + 1
  bk a3 a4 a5 a6 v13 h))
  else none)
  else
  (let v14 : Int32 := a7 + 1
  bk a3 a4 a5 a6 v14 h))
def F_M_quarrel_0 (N : Nat) (bk : (Int32 → Int32 → Int32 → Int32 → Int32 → MH → Option (Int32 × MH))) (a1 : Int32) (a2 : Int32) (a3 : Int32) (h : MH) : Option (Int32 × MH) :=
  (f_M_areYears N a1 a2 h).bind (fun x1 =>
  if x1.1 = 0 then
  ((f_M_refuse N 1 x1.2).bind (fun x2 =>
  some (x2.1, x2.2)))
  else
  (if a3 < 0 then
  ((f_M_refuse N 1 x1.2).bind (fun x3 =>
  some (x3.1, x3.2)))
  else
  (if a3 ≤ 2 then
  (if (gI x1.2 68 32) = 0 then
  ((f_M_refuse N 6 x1.2).bind (fun x4 =>
  some (x4.1, x4.2)))
  else
  ((f_M_see N a1 a2 x1.2).bind (fun x5 =>
  (f_M_findSets N x5).bind (fun x6 =>
  if inB (gI x6 68 67) 256 = true then
  (if (gI x6 106 (iN (gI x6 68 67))) = 0 then
  (F_M_quarrel_78 N bk a3 ((-1)) 0 0 0 x6)
  else
  ((f_M_refuse N 6 x6).bind (fun x7 =>
  some (x7.1, x7.2))))
  else none))))
  else
  ((f_M_refuse N 1 x1.2).bind (fun x8 =>
  some (x8.1, x8.2))))))
def L_M_quarrel (N : Nat) : Nat → (Int32 → Int32 → Int32 → Int32 → Int32 → MH → Option (Int32 × MH))
  | 0 => fun _ _ _ _ _ _ => none
  | n + 1 => F_M_quarrel_78 N (L_M_quarrel N n)
def f_M_quarrel (N : Nat) (a1 : Int32) (a2 : Int32) (a3 : Int32) (h : MH) : Option (Int32 × MH) := F_M_quarrel_0 N (L_M_quarrel N N) a1 a2 a3 h
def C_M_quarrel (N : Nat) : MC := (KDL, false, (fun _ => 0), jsB, (fun j => match Nat.beq j 168 with
    | true => w_M_refuse (f_M_refuse N)
    | false => match Nat.beq j 169 with
    | true => w_M_gives (f_M_gives N)
    | false => match Nat.beq j 234 with
    | true => w_M_areYears (f_M_areYears N)
    | false => match Nat.beq j 241 with
    | true => w_M_bits (f_M_bits N)
    | false => fun _ _ => none), (fun _ _ _ => none), (fun _ _ _ => none), (fun j => match Nat.beq j 227 with
    | true => w_M_see (f_M_see N)
    | false => match Nat.beq j 240 with
    | true => w_M_findSets (f_M_findSets N)
    | false => fun _ _ => none))
def D_M_quarrel (N : Nat) (n pc : Nat) (lv : ML) (st : List MV) (h : MH) : Option (Int32 × MH) :=
  match Nat.beq pc 0 with
  | true => (match lk lv 0, lk lv 1, lk lv 2, lk lv 3, st with
    | some (.inr (.inr (0, 12, 68))), some (.inl a1), some (.inl a2), some (.inl a3), [] => F_M_quarrel_0 N (L_M_quarrel N n) a1 a2 a3 h
    | _, _, _, _, _ => none)
  | false => match Nat.beq pc 78 with
  | true => (match lk lv 0, lk lv 3, lk lv 4, lk lv 5, lk lv 6, lk lv 7, st with
    | some (.inr (.inr (0, 12, 68))), some (.inl a3), some (.inl a4), some (.inl a5), some (.inl a6), some (.inl a7), [] => F_M_quarrel_78 N (L_M_quarrel N n) a3 a4 a5 a6 a7 h
    | _, _, _, _, _, _, _ => none)
  | false => match Nat.beq pc 143 with
  | true => (match lk lv 0, lk lv 3, lk lv 4, lk lv 5, lk lv 6, lk lv 7, lk lv 8, st with
    | some (.inr (.inr (0, 12, 68))), some (.inl a3), some (.inl a4), some (.inl a5), some (.inl a6), some (.inl a7), some (.inl a8), [] => F_M_quarrel_143 N (L_M_quarrel N n) a3 a4 a5 a6 a7 a8 h
    | _, _, _, _, _, _, _, _ => none)
  | false => none
def B_M_quarrel (N : Nat) (n pc : Nat) (lv : ML) (st : List MV) (h : MH) : Option (Int32 × MH) :=
  match Nat.beq pc 78 with
  | true => (match lk lv 0, lk lv 3, lk lv 4, lk lv 5, lk lv 6, lk lv 7, st with
    | some (.inr (.inr (0, 12, 68))), some (.inl a3), some (.inl a4), some (.inl a5), some (.inl a6), some (.inl a7), [] => ((L_M_quarrel N n)) a3 a4 a5 a6 a7 h
    | _, _, _, _, _, _, _ => none)
  | false => none
set_option maxRecDepth 1000000 in
theorem E_M_quarrel_0 (N : Nat) (n : Nat) (a1 : Int32) (a2 : Int32) (a3 : Int32) (h : MH) : seg (C_M_quarrel N) 9 0 rI T_M_quarrel [0, 78, 143] (fun q lv st h => match Nat.ble 1 q with
    | true => D_M_quarrel N n q lv st h
    | false => B_M_quarrel N n q lv st h) 400 true 0 [(0, .inr (.inr (0, 12, 68))), (1, .inl a1), (2, .inl a2), (3, .inl a3)] [] h = F_M_quarrel_0 N (L_M_quarrel N n) a1 a2 a3 h := (rfl)
set_option maxRecDepth 1000000 in
theorem E_M_quarrel_78 (N : Nat) (n : Nat) (a3 : Int32) (a4 : Int32) (a5 : Int32) (a6 : Int32) (a7 : Int32) (h : MH) : seg (C_M_quarrel N) 9 0 rI T_M_quarrel [0, 78, 143] (fun q lv st h => match Nat.ble 79 q with
    | true => D_M_quarrel N n q lv st h
    | false => B_M_quarrel N n q lv st h) 400 true 78 [(0, .inr (.inr (0, 12, 68))), (3, .inl a3), (4, .inl a4), (5, .inl a5), (6, .inl a6), (7, .inl a7)] [] h = F_M_quarrel_78 N (L_M_quarrel N n) a3 a4 a5 a6 a7 h := (rfl)
set_option maxRecDepth 1000000 in
theorem E_M_quarrel_143 (N : Nat) (n : Nat) (a3 : Int32) (a4 : Int32) (a5 : Int32) (a6 : Int32) (a7 : Int32) (a8 : Int32) (h : MH) : seg (C_M_quarrel N) 9 0 rI T_M_quarrel [0, 78, 143] (fun q lv st h => match Nat.ble 144 q with
    | true => D_M_quarrel N n q lv st h
    | false => B_M_quarrel N n q lv st h) 400 true 143 [(0, .inr (.inr (0, 12, 68))), (3, .inl a3), (4, .inl a4), (5, .inl a5), (6, .inl a6), (7, .inl a7), (8, .inl a8)] [] h = F_M_quarrel_143 N (L_M_quarrel N n) a3 a4 a5 a6 a7 a8 h := (rfl)
def T_M_without : List (List (Option RW)) := [
  [some (.iload_n 1, 1, [1], 0, 0), some (.iload_n 2, 1, [2], 0, 0), some (.invokestatic 451, 3, [2, 234, 2, 0], 0, 0), none, none, some (.ifCond .eq 11, 3, [16], 0, 0), none, none, some (.aload_n 0, 1, [0], 0, 0), some (.iload_n 3, 1, [3], 0, 0), some (.invokevirtual 366, 3, [0, 205, 2, 0], 0, 0), none, none, some (.ifCond .ne 9, 3, [22], 0, 0), none, none, some (.aload_n 0, 1, [0], 0, 0), some (.iconst 1, 1, [], 1, 0), some (.invokevirtual 342, 3, [0, 168, 2, 0], 0, 0), none, none, some (.ireturn, 1, [], 0, 0), some (.aload_n 0, 1, [0], 0, 0), some (.getfield 348, 3, [12, 32, 0], 0, 0), none, none, some (.ifCond .ne 10, 3, [36], 0, 0), none, none, some (.aload_n 0, 1, [0], 0, 0), some (.bipush 6, 2, [], 6, 0), none],
  [some (.invokevirtual 342, 3, [0, 168, 2, 0], 0, 0), none, none, some (.ireturn, 1, [], 0, 0), some (.aload_n 0, 1, [0], 0, 0), some (.iload_n 1, 1, [1], 0, 0), some (.iload_n 2, 1, [2], 0, 0), some (.invokevirtual 454, 3, [0, 227, 3, 3], 0, 0), none, none, some (.aload_n 0, 1, [0], 0, 0), some (.invokevirtual 465, 3, [0, 240, 1, 3], 0, 0), none, none, some (.aload_n 0, 1, [0], 0, 0), some (.aload_n 0, 1, [0], 0, 0), some (.getfield 141, 3, [12, 71, 2, 4, 256, 38], 0, 0), none, none, some (.aload_n 0, 1, [0], 0, 0), some (.getfield 427, 3, [12, 67, 0], 0, 0), none, none, some (.iconst 1, 1, [], 1, 0), some (.iload_n 3, 1, [3], 0, 0), some (.ishl, 1, [], 0, 0), some (.iconst (-1), 1, [], (-1), 0), some (.ixor, 1, [], 0, 0), some (.iand, 1, [], 0, 0), some (.baload, 1, [], 0, 0), some (.ifCond .eq 7, 3, [69], 0, 0), none],
  [none, some (.iconst 1, 1, [], 1, 0), some (.goto 4, 3, [70], 0, 0), none, none, some (.iconst 0, 1, [], 0, 0), some (.invokevirtual 180, 3, [0, 169, 2, 0], 0, 0), none, none, some (.ireturn, 1, [], 0, 0)]]
def f_M_without (N : Nat) (a1 : Int32) (a2 : Int32) (a3 : Int32) (h : MH) : Option (Int32 × MH) :=
  (f_M_areYears N a1 a2 h).bind (fun x1 =>
  if x1.1 = 0 then
  ((f_M_refuse N 1 x1.2).bind (fun x2 =>
  some (x2.1, x2.2)))
  else
  ((f_M_isMark N a3 x1.2).bind (fun x3 =>
  if x3.1 = 0 then
  ((f_M_refuse N 1 x3.2).bind (fun x4 =>
  some (x4.1, x4.2)))
  else
  (if (gI x3.2 68 32) = 0 then
  ((f_M_refuse N 6 x3.2).bind (fun x5 =>
  some (x5.1, x5.2)))
  else
  ((f_M_see N a1 a2 x3.2).bind (fun x6 =>
  (f_M_findSets N x6).bind (fun x7 =>
  if inB ((gI x7 68 67) &&& (((1 : Int32) <<< (a3 &&& 31)) ^^^ ((-1)))) 256 = true then
  (if (gI x7 106 (iN ((gI x7 68 67) &&& (((1 : Int32) <<< (a3 &&& 31)) ^^^ ((-1)))))) = 0 then
  ((f_M_gives N 0 x7).bind (fun x8 =>
  some (x8.1, x8.2)))
  else
  ((f_M_gives N 1 x7).bind (fun x9 =>
  some (x9.1, x9.2))))
  else none)))))))
def C_M_without (N : Nat) : MC := (KDL, false, (fun _ => 0), jsB, (fun j => match Nat.beq j 168 with
    | true => w_M_refuse (f_M_refuse N)
    | false => match Nat.beq j 169 with
    | true => w_M_gives (f_M_gives N)
    | false => match Nat.beq j 205 with
    | true => w_M_isMark (f_M_isMark N)
    | false => match Nat.beq j 234 with
    | true => w_M_areYears (f_M_areYears N)
    | false => fun _ _ => none), (fun _ _ _ => none), (fun _ _ _ => none), (fun j => match Nat.beq j 227 with
    | true => w_M_see (f_M_see N)
    | false => match Nat.beq j 240 with
    | true => w_M_findSets (f_M_findSets N)
    | false => fun _ _ => none))
def D_M_without (N : Nat) (n pc : Nat) (lv : ML) (st : List MV) (h : MH) : Option (Int32 × MH) :=
  match Nat.beq pc 0 with
  | true => (match lk lv 0, lk lv 1, lk lv 2, lk lv 3, st with
    | some (.inr (.inr (0, 12, 68))), some (.inl a1), some (.inl a2), some (.inl a3), [] => f_M_without N a1 a2 a3 h
    | _, _, _, _, _ => none)
  | false => none
set_option maxRecDepth 1000000 in
theorem E_M_without_0 (N : Nat) (n : Nat) (a1 : Int32) (a2 : Int32) (a3 : Int32) (h : MH) : seg (C_M_without N) 4 0 rI T_M_without [0] (fun q lv st h => match Nat.ble 1 q with
    | true => D_M_without N n q lv st h
    | false => none) 400 true 0 [(0, .inr (.inr (0, 12, 68))), (1, .inl a1), (2, .inl a2), (3, .inl a3)] [] h = f_M_without N a1 a2 a3 h := (rfl)
def T_M_odds : List (List (Option RW)) := [
  [some (.iload_n 1, 1, [1], 0, 0), some (.iload_n 2, 1, [2], 0, 0), some (.invokestatic 451, 3, [2, 234, 2, 0], 0, 0), none, none, some (.ifCond .eq 23, 3, [28], 0, 0), none, none, some (.aload_n 0, 1, [0], 0, 0), some (.iload_n 3, 1, [3], 0, 0), some (.invokevirtual 462, 3, [0, 235, 2, 0], 0, 0), none, none, some (.ifCond .eq 15, 3, [28], 0, 0), none, none, some (.iload 4, 2, [4], 0, 0), none, some (.ifCond .lt 10, 3, [28], 0, 0), none, none, some (.iload 4, 2, [4], 0, 0), none, some (.bipush 54, 2, [], 54, 0), none, some (.if_icmp .le 9, 3, [34], 0, 0), none, none, some (.aload_n 0, 1, [0], 0, 0), some (.iconst 1, 1, [], 1, 0), some (.invokevirtual 342, 3, [0, 168, 2, 0], 0, 0), none],
  [none, some (.ireturn, 1, [], 0, 0), some (.aload_n 0, 1, [0], 0, 0), some (.iload_n 1, 1, [1], 0, 0), some (.iload_n 2, 1, [2], 0, 0), some (.invokevirtual 454, 3, [0, 227, 3, 3], 0, 0), none, none, some (.aload_n 0, 1, [0], 0, 0), some (.aload_n 0, 1, [0], 0, 0), some (.getfield 427, 3, [12, 67, 0], 0, 0), none, none, some (.iload_n 3, 1, [3], 0, 0), some (.invokevirtual 458, 3, [0, 233, 3, 1], 0, 0), none, none, some (.lstore 5, 2, [5], 0, 0), none, some (.lload 5, 2, [5], 0, 0), none, some (.lconst 0, 1, [], 0, 0), some (.lcmp, 1, [], 0, 0), some (.ifCond .ne 10, 3, [65], 0, 0), none, none, some (.aload_n 0, 1, [0], 0, 0), some (.bipush 6, 2, [], 6, 0), none, some (.invokevirtual 342, 3, [0, 168, 2, 0], 0, 0), none, none],
  [some (.ireturn, 1, [], 0, 0), some (.lconst 0, 1, [], 0, 0), some (.lstore 7, 2, [7], 0, 0), none, some (.iload 4, 2, [4], 0, 0), none, some (.istore 9, 2, [9], 0, 0), none, some (.iload 9, 2, [9], 0, 0), none, some (.bipush 55, 2, [], 55, 0), none, some (.if_icmp .ge 21, 3, [97], 0, 0), none, none, some (.lload 7, 2, [7], 0, 0), none, some (.aload_n 0, 1, [0], 0, 0), some (.getfield 144, 3, [12, 72, 2, 2, 55, 39], 0, 0), none, none, some (.iload 9, 2, [9], 0, 0), none, some (.laload, 1, [], 0, 0), some (.ladd, 1, [], 0, 0), some (.lstore 7, 2, [7], 0, 0), none, some (.iinc 9 1, 3, [9], 1, 0), none, none, some (.goto (-22), 3, [72], 0, 0), none],
  [none, some (.aload_n 0, 1, [0], 0, 0), some (.lload 7, 2, [7], 0, 0), none, some (.lload 5, 2, [5], 0, 0), none, some (.invokevirtual 417, 3, [0, 170, 3, 0], 0, 0), none, none, some (.ireturn, 1, [], 0, 0)]]
def F_M_odds_72 (N : Nat) (bk : (Int64 → Int64 → Int32 → MH → Option (Int32 × MH))) (a5 : Int64) (a7 : Int64) (a9 : Int32) (h : MH) : Option (Int32 × MH) :=
  if 55 ≤ a9 then
  ((f_M_fraction N a7 a5 h).bind (fun x10 =>
  some (x10.1, x10.2)))
  else
  (if inB a9 55 = true then
  (let v11 : Int64 := a7 + (gJ h 107 (iN a9))
  let v12 : Int32 := a9 + 1
  bk a5 v11 v12 h)
  else none)
def F_M_odds_0 (N : Nat) (bk : (Int64 → Int64 → Int32 → MH → Option (Int32 × MH))) (a1 : Int32) (a2 : Int32) (a3 : Int32) (a4 : Int32) (h : MH) : Option (Int32 × MH) :=
  (f_M_areYears N a1 a2 h).bind (fun x1 =>
  if x1.1 = 0 then
  ((f_M_refuse N 1 x1.2).bind (fun x2 =>
  some (x2.1, x2.2)))
  else
  ((f_M_areCells N a3 x1.2).bind (fun x3 =>
  if x3.1 = 0 then
  ((f_M_refuse N 1 x3.2).bind (fun x4 =>
  some (x4.1, x4.2)))
  else
  (if a4 < 0 then
  ((f_M_refuse N 1 x3.2).bind (fun x5 =>
  some (x5.1, x5.2)))
  else
  (if a4 ≤ 54 then
  ((f_M_see N a1 a2 x3.2).bind (fun x6 =>
  (f_M_count N (gI x6 68 67) a3 x6).bind (fun x7 =>
  if (lg_cmp x7.1 0) = 0 then
  ((f_M_refuse N 6 x7.2).bind (fun x8 =>
  some (x8.1, x8.2)))
  else
  (F_M_odds_72 N bk x7.1 0 a4 x7.2))))
  else
  ((f_M_refuse N 1 x3.2).bind (fun x9 =>
  some (x9.1, x9.2))))))))
def L_M_odds (N : Nat) : Nat → (Int64 → Int64 → Int32 → MH → Option (Int32 × MH))
  | 0 => fun _ _ _ _ => none
  | n + 1 => F_M_odds_72 N (L_M_odds N n)
def f_M_odds (N : Nat) (a1 : Int32) (a2 : Int32) (a3 : Int32) (a4 : Int32) (h : MH) : Option (Int32 × MH) := F_M_odds_0 N (L_M_odds N N) a1 a2 a3 a4 h
def C_M_odds (N : Nat) : MC := (KDL, false, (fun _ => 0), jsB, (fun j => match Nat.beq j 168 with
    | true => w_M_refuse (f_M_refuse N)
    | false => match Nat.beq j 170 with
    | true => w_M_fraction (f_M_fraction N)
    | false => match Nat.beq j 234 with
    | true => w_M_areYears (f_M_areYears N)
    | false => match Nat.beq j 235 with
    | true => w_M_areCells (f_M_areCells N)
    | false => fun _ _ => none), (fun j => match Nat.beq j 233 with
    | true => w_M_count (f_M_count N)
    | false => fun _ _ => none), (fun _ _ _ => none), (fun j => match Nat.beq j 227 with
    | true => w_M_see (f_M_see N)
    | false => fun _ _ => none))
def D_M_odds (N : Nat) (n pc : Nat) (lv : ML) (st : List MV) (h : MH) : Option (Int32 × MH) :=
  match Nat.beq pc 0 with
  | true => (match lk lv 0, lk lv 1, lk lv 2, lk lv 3, lk lv 4, st with
    | some (.inr (.inr (0, 12, 68))), some (.inl a1), some (.inl a2), some (.inl a3), some (.inl a4), [] => F_M_odds_0 N (L_M_odds N n) a1 a2 a3 a4 h
    | _, _, _, _, _, _ => none)
  | false => match Nat.beq pc 72 with
  | true => (match lk lv 0, lk lv 5, lk lv 7, lk lv 9, st with
    | some (.inr (.inr (0, 12, 68))), some (.inr (.inl a5)), some (.inr (.inl a7)), some (.inl a9), [] => F_M_odds_72 N (L_M_odds N n) a5 a7 a9 h
    | _, _, _, _, _ => none)
  | false => none
def B_M_odds (N : Nat) (n pc : Nat) (lv : ML) (st : List MV) (h : MH) : Option (Int32 × MH) :=
  match Nat.beq pc 72 with
  | true => (match lk lv 0, lk lv 5, lk lv 7, lk lv 9, st with
    | some (.inr (.inr (0, 12, 68))), some (.inr (.inl a5)), some (.inr (.inl a7)), some (.inl a9), [] => ((L_M_odds N n)) a5 a7 a9 h
    | _, _, _, _, _ => none)
  | false => none
set_option maxRecDepth 1000000 in
theorem E_M_odds_0 (N : Nat) (n : Nat) (a1 : Int32) (a2 : Int32) (a3 : Int32) (a4 : Int32) (h : MH) : seg (C_M_odds N) 10 0 rI T_M_odds [0, 72] (fun q lv st h => match Nat.ble 1 q with
    | true => D_M_odds N n q lv st h
    | false => B_M_odds N n q lv st h) 400 true 0 [(0, .inr (.inr (0, 12, 68))), (1, .inl a1), (2, .inl a2), (3, .inl a3), (4, .inl a4)] [] h = F_M_odds_0 N (L_M_odds N n) a1 a2 a3 a4 h := (rfl)
set_option maxRecDepth 1000000 in
theorem E_M_odds_72 (N : Nat) (n : Nat) (a5 : Int64) (a7 : Int64) (a9 : Int32) (h : MH) : seg (C_M_odds N) 10 0 rI T_M_odds [0, 72] (fun q lv st h => match Nat.ble 73 q with
    | true => D_M_odds N n q lv st h
    | false => B_M_odds N n q lv st h) 400 true 72 [(0, .inr (.inr (0, 12, 68))), (5, .inr (.inl a5)), (7, .inr (.inl a7)), (9, .inl a9)] [] h = F_M_odds_72 N (L_M_odds N n) a5 a7 a9 h := (rfl)
def T_M_rankOf : List (List (Option RW)) := [
  [some (.iconst 0, 1, [], 0, 0), some (.istore_n 3, 1, [3], 0, 0), some (.iload_n 3, 1, [3], 0, 0), some (.bipush 8, 2, [], 8, 0), none, some (.if_icmp .ge 90, 3, [95], 0, 0), none, none, some (.iconst 0, 1, [], 0, 0), some (.istore 4, 2, [4], 0, 0), none, some (.iload 4, 2, [4], 0, 0), none, some (.bipush 6, 2, [], 6, 0), none, some (.if_icmp .ge 74, 3, [89], 0, 0), none, none, some (.aload_n 0, 1, [0], 0, 0), some (.getfield 150, 3, [12, 74, 2, 2, 48, 41], 0, 0), none, none, some (.bipush 6, 2, [], 6, 0), none, some (.iload_n 3, 1, [3], 0, 0), some (.imul, 1, [], 0, 0), some (.iload 4, 2, [4], 0, 0), none, some (.iadd, 1, [], 0, 0), some (.iload_n 3, 1, [3], 0, 0), some (.aload_n 0, 1, [0], 0, 0), some (.getfield 351, 3, [12, 33, 0], 0, 0)],
  [none, none, some (.if_icmp .ge 47, 3, [81], 0, 0), none, none, some (.iload 4, 2, [4], 0, 0), none, some (.aload_n 0, 1, [0], 0, 0), some (.getfield 348, 3, [12, 32, 0], 0, 0), none, none, some (.if_icmp .ge 38, 3, [81], 0, 0), none, none, some (.iload_n 1, 1, [1], 0, 0), some (.iload_n 3, 1, [3], 0, 0), some (.ishr, 1, [], 0, 0), some (.iconst 1, 1, [], 1, 0), some (.iand, 1, [], 0, 0), some (.iconst 1, 1, [], 1, 0), some (.if_icmp .ne 29, 3, [81], 0, 0), none, none, some (.iload_n 2, 1, [2], 0, 0), some (.iload 4, 2, [4], 0, 0), none, some (.ishr, 1, [], 0, 0), some (.iconst 1, 1, [], 1, 0), some (.iand, 1, [], 0, 0), some (.iconst 1, 1, [], 1, 0), some (.if_icmp .ne 19, 3, [81], 0, 0), none],
  [none, some (.aload_n 0, 1, [0], 0, 0), some (.getfield 81, 3, [12, 37, 2, 1, 48, 20], 0, 0), none, none, some (.bipush 8, 2, [], 8, 0), none, some (.iload 4, 2, [4], 0, 0), none, some (.imul, 1, [], 0, 0), some (.iload_n 3, 1, [3], 0, 0), some (.iadd, 1, [], 0, 0), some (.iaload, 1, [], 0, 0), some (.i2l, 1, [], 0, 0), some (.goto 4, 3, [82], 0, 0), none, none, some (.lconst 0, 1, [], 0, 0), some (.lastore, 1, [], 0, 0), some (.iinc 4 1, 3, [4], 1, 0), none, none, some (.goto (-75), 3, [11], 0, 0), none, none, some (.iinc 3 1, 3, [3], 1, 0), none, none, some (.goto (-90), 3, [2], 0, 0), none, none, some (.iconst 0, 1, [], 0, 0)],
  [some (.istore_n 3, 1, [3], 0, 0), some (.lconst 1, 1, [], 0, 1), some (.lstore 4, 2, [4], 0, 0), none, some (.iconst 0, 1, [], 0, 0), some (.istore 6, 2, [6], 0, 0), none, some (.iload 6, 2, [6], 0, 0), none, some (.bipush 6, 2, [], 6, 0), none, some (.if_icmp .ge 247, 3, [354], 0, 0), none, none, some (.iconst (-1), 1, [], (-1), 0), some (.istore 7, 2, [7], 0, 0), none, some (.bipush 7, 2, [], 7, 0), none, some (.istore 8, 2, [8], 0, 0), none, some (.iload 8, 2, [8], 0, 0), none, some (.iload_n 3, 1, [3], 0, 0), some (.if_icmp .lt 31, 3, [151], 0, 0), none, none, some (.aload_n 0, 1, [0], 0, 0), some (.getfield 150, 3, [12, 74, 2, 2, 48, 41], 0, 0), none, none, some (.bipush 6, 2, [], 6, 0)],
  [none, some (.iload 8, 2, [8], 0, 0), none, some (.imul, 1, [], 0, 0), some (.iload 6, 2, [6], 0, 0), none, some (.iadd, 1, [], 0, 0), some (.laload, 1, [], 0, 0), some (.lconst 0, 1, [], 0, 0), some (.lcmp, 1, [], 0, 0), some (.ifCond .eq 7, 3, [145], 0, 0), none, none, some (.iload 8, 2, [8], 0, 0), none, some (.istore 7, 2, [7], 0, 0), none, some (.iinc 8 (-1), 3, [8], (-1), 0), none, none, some (.goto (-31), 3, [117], 0, 0), none, none, some (.iload 7, 2, [7], 0, 0), none, some (.iconst (-1), 1, [], (-1), 0), some (.if_icmp .ne 6, 3, [160], 0, 0), none, none, some (.goto 191, 3, [348], 0, 0), none, none],
  [some (.iconst 0, 1, [], 0, 0), some (.istore 8, 2, [8], 0, 0), none, some (.iload 8, 2, [8], 0, 0), none, some (.bipush 6, 2, [], 6, 0), none, some (.if_icmp .ge 63, 3, [230], 0, 0), none, none, some (.aload_n 0, 1, [0], 0, 0), some (.getfield 150, 3, [12, 74, 2, 2, 48, 41], 0, 0), none, none, some (.bipush 6, 2, [], 6, 0), none, some (.iload 7, 2, [7], 0, 0), none, some (.imul, 1, [], 0, 0), some (.iload 8, 2, [8], 0, 0), none, some (.iadd, 1, [], 0, 0), some (.laload, 1, [], 0, 0), some (.lstore 9, 2, [9], 0, 0), none, some (.aload_n 0, 1, [0], 0, 0), some (.getfield 150, 3, [12, 74, 2, 2, 48, 41], 0, 0), none, none, some (.bipush 6, 2, [], 6, 0), none, some (.iload 7, 2, [7], 0, 0)],
  [none, some (.imul, 1, [], 0, 0), some (.iload 8, 2, [8], 0, 0), none, some (.iadd, 1, [], 0, 0), some (.aload_n 0, 1, [0], 0, 0), some (.getfield 150, 3, [12, 74, 2, 2, 48, 41], 0, 0), none, none, some (.bipush 6, 2, [], 6, 0), none, some (.iload_n 3, 1, [3], 0, 0), some (.imul, 1, [], 0, 0), some (.iload 8, 2, [8], 0, 0), none, some (.iadd, 1, [], 0, 0), some (.laload, 1, [], 0, 0), some (.lastore, 1, [], 0, 0), some (.aload_n 0, 1, [0], 0, 0), some (.getfield 150, 3, [12, 74, 2, 2, 48, 41], 0, 0), none, none, some (.bipush 6, 2, [], 6, 0), none, some (.iload_n 3, 1, [3], 0, 0), some (.imul, 1, [], 0, 0), some (.iload 8, 2, [8], 0, 0), none, some (.iadd, 1, [], 0, 0), some (.lload 9, 2, [9], 0, 0), none, some (.lastore, 1, [], 0, 0)],
  [some (.iinc 8 1, 3, [8], 1, 0), none, none, some (.goto (-64), 3, [163], 0, 0), none, none, some (.aload_n 0, 1, [0], 0, 0), some (.getfield 150, 3, [12, 74, 2, 2, 48, 41], 0, 0), none, none, some (.bipush 6, 2, [], 6, 0), none, some (.iload_n 3, 1, [3], 0, 0), some (.imul, 1, [], 0, 0), some (.iload 6, 2, [6], 0, 0), none, some (.iadd, 1, [], 0, 0), some (.laload, 1, [], 0, 0), some (.lstore 8, 2, [8], 0, 0), none, some (.iload_n 3, 1, [3], 0, 0), some (.iconst 1, 1, [], 1, 0), some (.iadd, 1, [], 0, 0), some (.istore 10, 2, [10], 0, 0), none, some (.iload 10, 2, [10], 0, 0), none, some (.bipush 8, 2, [], 8, 0), none, some (.if_icmp .ge 88, 3, [341], 0, 0), none, none],
  [some (.aload_n 0, 1, [0], 0, 0), some (.getfield 150, 3, [12, 74, 2, 2, 48, 41], 0, 0), none, none, some (.bipush 6, 2, [], 6, 0), none, some (.iload 10, 2, [10], 0, 0), none, some (.imul, 1, [], 0, 0), some (.iload 6, 2, [6], 0, 0), none, some (.iadd, 1, [], 0, 0), some (.laload, 1, [], 0, 0), some (.lstore 11, 2, [11], 0, 0), none, some (.iconst 0, 1, [], 0, 0), some (.istore 13, 2, [13], 0, 0), none, some (.iload 13, 2, [13], 0, 0), none, some (.bipush 6, 2, [], 6, 0), none, some (.if_icmp .ge 57, 3, [335], 0, 0), none, none, some (.aload_n 0, 1, [0], 0, 0), some (.getfield 150, 3, [12, 74, 2, 2, 48, 41], 0, 0), none, none, some (.bipush 6, 2, [], 6, 0), none, some (.iload 10, 2, [10], 0, 0)],
  [none, some (.imul, 1, [], 0, 0), some (.iload 13, 2, [13], 0, 0), none, some (.iadd, 1, [], 0, 0), some (.lload 8, 2, [8], 0, 0), none, some (.aload_n 0, 1, [0], 0, 0), some (.getfield 150, 3, [12, 74, 2, 2, 48, 41], 0, 0), none, none, some (.bipush 6, 2, [], 6, 0), none, some (.iload 10, 2, [10], 0, 0), none, some (.imul, 1, [], 0, 0), some (.iload 13, 2, [13], 0, 0), none, some (.iadd, 1, [], 0, 0), some (.laload, 1, [], 0, 0), some (.lmul, 1, [], 0, 0), some (.lload 11, 2, [11], 0, 0), none, some (.aload_n 0, 1, [0], 0, 0), some (.getfield 150, 3, [12, 74, 2, 2, 48, 41], 0, 0), none, none, some (.bipush 6, 2, [], 6, 0), none, some (.iload_n 3, 1, [3], 0, 0), some (.imul, 1, [], 0, 0), some (.iload 13, 2, [13], 0, 0)],
  [none, some (.iadd, 1, [], 0, 0), some (.laload, 1, [], 0, 0), some (.lmul, 1, [], 0, 0), some (.lsub, 1, [], 0, 0), some (.lload 4, 2, [4], 0, 0), none, some (.ldiv, 1, [], 0, 0), some (.lastore, 1, [], 0, 0), some (.iinc 13 1, 3, [13], 1, 0), none, none, some (.goto (-58), 3, [274], 0, 0), none, none, some (.iinc 10 1, 3, [10], 1, 0), none, none, some (.goto (-89), 3, [249], 0, 0), none, none, some (.lload 8, 2, [8], 0, 0), none, some (.lstore 4, 2, [4], 0, 0), none, some (.iinc 3 1, 3, [3], 1, 0), none, none, some (.iinc 6 1, 3, [6], 1, 0), none, none, some (.goto (-248), 3, [103], 0, 0)],
  [none, none, some (.iload_n 3, 1, [3], 0, 0), some (.ireturn, 1, [], 0, 0)]]
def F_M_rankOf_274 (N : Nat) (bk : (Int32 → Int32 → Int32 → MH → Option (Int32 × MH)) × (Int32 → Int32 → Int32 → Int32 → MH → Option (Int32 × MH)) × (Int32 → Int64 → Int32 → MH → Option (Int32 × MH)) × (Int32 → Int64 → Int32 → Int32 → Int32 → MH → Option (Int32 × MH)) × (Int32 → Int64 → Int32 → Int32 → Int32 → MH → Option (Int32 × MH)) × (Int32 → Int64 → Int32 → Int64 → Int32 → MH → Option (Int32 × MH)) × (Int32 → Int64 → Int32 → Int64 → Int32 → Int64 → Int32 → MH → Option (Int32 × MH))) (a3 : Int32) (a4 : Int64) (a6 : Int32) (a8 : Int64) (a10 : Int32) (a11 : Int64) (a13 : Int32) (h : MH) : Option (Int32 × MH) :=
  if 6 ≤ a13 then
  (let v24 : Int32 := a10 + 1
  (bk.2.2.2.2.2.1) a3 a4 a6 a8 v24 h)
  else
  (if inB ((6 * a10) + a13) 48 = true then
  (if inB ((6 * a3) + a13) 48 = true then
  (if a4 = 0 then none else
  if inB ((6 * a10) + a13) 48 = true then
  (let h25 : MH := sJ h 109 (iN ((6 * a10) + a13)) (((a8 * (gJ h 109 (iN ((6 * a10) + a13)))) - (a11 * (gJ h 109 (iN ((6 * a3) + a13))))) / a4)
  let v26 : Int32 := a13 + 1
  (bk.2.2.2.2.2.2) a3 a4 a6 a8 a10 a11 v26 h25)
  else none)
  else none)
  else none)
def F_M_rankOf_249 (N : Nat) (bk : (Int32 → Int32 → Int32 → MH → Option (Int32 × MH)) × (Int32 → Int32 → Int32 → Int32 → MH → Option (Int32 × MH)) × (Int32 → Int64 → Int32 → MH → Option (Int32 × MH)) × (Int32 → Int64 → Int32 → Int32 → Int32 → MH → Option (Int32 × MH)) × (Int32 → Int64 → Int32 → Int32 → Int32 → MH → Option (Int32 × MH)) × (Int32 → Int64 → Int32 → Int64 → Int32 → MH → Option (Int32 × MH)) × (Int32 → Int64 → Int32 → Int64 → Int32 → Int64 → Int32 → MH → Option (Int32 × MH))) (a3 : Int32) (a4 : Int64) (a6 : Int32) (a8 : Int64) (a10 : Int32) (h : MH) : Option (Int32 × MH) :=
  if 8 ≤ a10 then
  (let v21 : Int32 := a3 + 1
  let v22 : Int32 := a6 + 1
  (bk.2.2.1) v21 a8 v22 h)
  else
  (if inB ((6 * a10) + a6) 48 = true then
  (let v23 : Int64 := gJ h 109 (iN ((6 * a10) + a6))
  F_M_rankOf_274 N bk a3 a4 a6 a8 a10 v23 0 h)
  else none)
def F_M_rankOf_163 (N : Nat) (bk : (Int32 → Int32 → Int32 → MH → Option (Int32 × MH)) × (Int32 → Int32 → Int32 → Int32 → MH → Option (Int32 × MH)) × (Int32 → Int64 → Int32 → MH → Option (Int32 × MH)) × (Int32 → Int64 → Int32 → Int32 → Int32 → MH → Option (Int32 × MH)) × (Int32 → Int64 → Int32 → Int32 → Int32 → MH → Option (Int32 × MH)) × (Int32 → Int64 → Int32 → Int64 → Int32 → MH → Option (Int32 × MH)) × (Int32 → Int64 → Int32 → Int64 → Int32 → Int64 → Int32 → MH → Option (Int32 × MH))) (a3 : Int32) (a4 : Int64) (a6 : Int32) (a7 : Int32) (a8 : Int32) (h : MH) : Option (Int32 × MH) :=
  if 6 ≤ a8 then
  (if inB ((6 * a3) + a6) 48 = true then
  (let v15 : Int64 := gJ h 109 (iN ((6 * a3) + a6))
  let v16 : Int32 := a3 + 1
  F_M_rankOf_249 N bk a3 a4 a6 v15 v16 h)
  else none)
  else
  (if inB ((6 * a7) + a8) 48 = true then
  (let v17 : Int64 := gJ h 109 (iN ((6 * a7) + a8))
  if inB ((6 * a3) + a8) 48 = true then
  (if inB ((6 * a7) + a8) 48 = true then
  (let h18 : MH := sJ h 109 (iN ((6 * a7) + a8)) (gJ h 109 (iN ((6 * a3) + a8)))
  if inB ((6 * a3) + a8) 48 = true then
  (let h19 : MH := sJ h18 109 (iN ((6 * a3) + a8)) v17
  let v20 : Int32 := a8 + 1
  (bk.2.2.2.2.1) a3 a4 a6 a7 v20 h19)
  else none)
  else none)
  else none)
  else none)
def F_M_rankOf_117 (N : Nat) (bk : (Int32 → Int32 → Int32 → MH → Option (Int32 × MH)) × (Int32 → Int32 → Int32 → Int32 → MH → Option (Int32 × MH)) × (Int32 → Int64 → Int32 → MH → Option (Int32 × MH)) × (Int32 → Int64 → Int32 → Int32 → Int32 → MH → Option (Int32 × MH)) × (Int32 → Int64 → Int32 → Int32 → Int32 → MH → Option (Int32 × MH)) × (Int32 → Int64 → Int32 → Int64 → Int32 → MH → Option (Int32 × MH)) × (Int32 → Int64 → Int32 → Int64 → Int32 → Int64 → Int32 → MH → Option (Int32 × MH))) (a3 : Int32) (a4 : Int64) (a6 : Int32) (a7 : Int32) (a8 : Int32) (h : MH) : Option (Int32 × MH) :=
  if a8 < a3 then
  (if a7 = ((-1)) then
  (let v12 : Int32 := a6 + 1
  (bk.2.2.1) a3 a4 v12 h)
  else
  (F_M_rankOf_163 N bk a3 a4 a6 a7 0 h))
  else
  (if inB ((6 * a8) + a6) 48 = true then
  (if (lg_cmp (gJ h 109 (iN ((6 * a8) + a6))) 0) = 0 then
  (let v13 : Int32 := a8 + (-1)
  (bk.2.2.2.1) a3 a4 a6 a7 v13 h)
  else
  (let v14 : Int32 := a8 + (-1)
  (bk.2.2.2.1) a3 a4 a6 a8 v14 h))
  else none)
def F_M_rankOf_103 (N : Nat) (bk : (Int32 → Int32 → Int32 → MH → Option (Int32 × MH)) × (Int32 → Int32 → Int32 → Int32 → MH → Option (Int32 × MH)) × (Int32 → Int64 → Int32 → MH → Option (Int32 × MH)) × (Int32 → Int64 → Int32 → Int32 → Int32 → MH → Option (Int32 × MH)) × (Int32 → Int64 → Int32 → Int32 → Int32 → MH → Option (Int32 × MH)) × (Int32 → Int64 → Int32 → Int64 → Int32 → MH → Option (Int32 × MH)) × (Int32 → Int64 → Int32 → Int64 → Int32 → Int64 → Int32 → MH → Option (Int32 × MH))) (a3 : Int32) (a4 : Int64) (a6 : Int32) (h : MH) : Option (Int32 × MH) :=
  if 6 ≤ a6 then
  (some (a3, h))
  else
  (F_M_rankOf_117 N bk a3 a4 a6 ((-1)) 7 h)
def F_M_rankOf_11 (N : Nat) (bk : (Int32 → Int32 → Int32 → MH → Option (Int32 × MH)) × (Int32 → Int32 → Int32 → Int32 → MH → Option (Int32 × MH)) × (Int32 → Int64 → Int32 → MH → Option (Int32 × MH)) × (Int32 → Int64 → Int32 → Int32 → Int32 → MH → Option (Int32 × MH)) × (Int32 → Int64 → Int32 → Int32 → Int32 → MH → Option (Int32 × MH)) × (Int32 → Int64 → Int32 → Int64 → Int32 → MH → Option (Int32 × MH)) × (Int32 → Int64 → Int32 → Int64 → Int32 → Int64 → Int32 → MH → Option (Int32 × MH))) (a1 : Int32) (a2 : Int32) (a3 : Int32) (a4 : Int32) (h : MH) : Option (Int32 × MH) :=
  if 6 ≤ a4 then
  (let v1 : Int32 := a3 + 1
  (bk.1) a1 a2 v1 h)
  else
  (if (gI h 68 33) ≤ a3 then
  (if inB ((6 * a3) + a4) 48 = true then
  (let h2 : MH := sJ h 109 (iN ((6 * a3) + a4)) 0
  let v3 : Int32 := a4 + 1
  (bk.2.1) a1 a2 a3 v3 h2)
  else none)
  else
  (if (gI h 68 32) ≤ a4 then
  (if inB ((6 * a3) + a4) 48 = true then
  (let h4 : MH := sJ h 109 (iN ((6 * a3) + a4)) 0
  let v5 : Int32 := a4 + 1
  (bk.2.1) a1 a2 a3 v5 h4)
  else none)
  else
  (if ((a1 >>> (a3 &&& 31)) &&& 1) = 1 then
  (if ((a2 >>> (a4 &&& 31)) &&& 1) = 1 then
  (if inB ((8 * a4) + a3) 48 = true then
  (if inB ((6 * a3) + a4) 48 = true then
  (let h6 : MH := sJ h 109 (iN ((6 * a3) + a4)) (((gI h 88 (iN ((8 * a4) + a3)))).toInt64)
  let v7 : Int32 := a4 + 1
  (bk.2.1) a1 a2 a3 v7 h6)
  else none)
  else none)
  else
  (if inB ((6 * a3) + a4) 48 = true then
  (let h8 : MH := sJ h 109 (iN ((6 * a3) + a4)) 0
  let v9 : Int32 := a4 + 1
  (bk.2.1) a1 a2 a3 v9 h8)
  else none))
  else
  (if inB ((6 * a3) + a4) 48 = true then
  (let h10 : MH := sJ h 109 (iN ((6 * a3) + a4)) 0
  let v11 : Int32 := a4 + 1
  (bk.2.1) a1 a2 a3 v11 h10)
  else none))))
def F_M_rankOf_2 (N : Nat) (bk : (Int32 → Int32 → Int32 → MH → Option (Int32 × MH)) × (Int32 → Int32 → Int32 → Int32 → MH → Option (Int32 × MH)) × (Int32 → Int64 → Int32 → MH → Option (Int32 × MH)) × (Int32 → Int64 → Int32 → Int32 → Int32 → MH → Option (Int32 × MH)) × (Int32 → Int64 → Int32 → Int32 → Int32 → MH → Option (Int32 × MH)) × (Int32 → Int64 → Int32 → Int64 → Int32 → MH → Option (Int32 × MH)) × (Int32 → Int64 → Int32 → Int64 → Int32 → Int64 → Int32 → MH → Option (Int32 × MH))) (a1 : Int32) (a2 : Int32) (a3 : Int32) (h : MH) : Option (Int32 × MH) :=
  if 8 ≤ a3 then
  (F_M_rankOf_103 N bk 0 1 0 h)
  else
  (F_M_rankOf_11 N bk a1 a2 a3 0 h)
def F_M_rankOf_0 (N : Nat) (bk : (Int32 → Int32 → Int32 → MH → Option (Int32 × MH)) × (Int32 → Int32 → Int32 → Int32 → MH → Option (Int32 × MH)) × (Int32 → Int64 → Int32 → MH → Option (Int32 × MH)) × (Int32 → Int64 → Int32 → Int32 → Int32 → MH → Option (Int32 × MH)) × (Int32 → Int64 → Int32 → Int32 → Int32 → MH → Option (Int32 × MH)) × (Int32 → Int64 → Int32 → Int64 → Int32 → MH → Option (Int32 × MH)) × (Int32 → Int64 → Int32 → Int64 → Int32 → Int64 → Int32 → MH → Option (Int32 × MH))) (a1 : Int32) (a2 : Int32) (h : MH) : Option (Int32 × MH) :=
  F_M_rankOf_2 N bk a1 a2 0 h
def L_M_rankOf (N : Nat) : Nat → ((Int32 → Int32 → Int32 → MH → Option (Int32 × MH)) × (Int32 → Int32 → Int32 → Int32 → MH → Option (Int32 × MH)) × (Int32 → Int64 → Int32 → MH → Option (Int32 × MH)) × (Int32 → Int64 → Int32 → Int32 → Int32 → MH → Option (Int32 × MH)) × (Int32 → Int64 → Int32 → Int32 → Int32 → MH → Option (Int32 × MH)) × (Int32 → Int64 → Int32 → Int64 → Int32 → MH → Option (Int32 × MH)) × (Int32 → Int64 → Int32 → Int64 → Int32 → Int64 → Int32 → MH → Option (Int32 × MH)))
  | 0 => (fun _ _ _ _ => none, fun _ _ _ _ _ => none, fun _ _ _ _ => none, fun _ _ _ _ _ _ => none, fun _ _ _ _ _ _ => none, fun _ _ _ _ _ _ => none, fun _ _ _ _ _ _ _ _ => none)
  | n + 1 => (F_M_rankOf_2 N (L_M_rankOf N n), F_M_rankOf_11 N (L_M_rankOf N n), F_M_rankOf_103 N (L_M_rankOf N n), F_M_rankOf_117 N (L_M_rankOf N n), F_M_rankOf_163 N (L_M_rankOf N n), F_M_rankOf_249 N (L_M_rankOf N n), F_M_rankOf_274 N (L_M_rankOf N n))
def f_M_rankOf (N : Nat) (a1 : Int32) (a2 : Int32) (h : MH) : Option (Int32 × MH) := F_M_rankOf_0 N (L_M_rankOf N N) a1 a2 h
def C_M_rankOf (N : Nat) : MC := (KDL, false, (fun _ => 0), jsB, (fun _ _ _ => none), (fun _ _ _ => none), (fun _ _ _ => none), (fun _ _ _ => none))
def D_M_rankOf (N : Nat) (n pc : Nat) (lv : ML) (st : List MV) (h : MH) : Option (Int32 × MH) :=
  match Nat.beq pc 0 with
  | true => (match lk lv 0, lk lv 1, lk lv 2, st with
    | some (.inr (.inr (0, 12, 68))), some (.inl a1), some (.inl a2), [] => F_M_rankOf_0 N (L_M_rankOf N n) a1 a2 h
    | _, _, _, _ => none)
  | false => match Nat.beq pc 2 with
  | true => (match lk lv 0, lk lv 1, lk lv 2, lk lv 3, st with
    | some (.inr (.inr (0, 12, 68))), some (.inl a1), some (.inl a2), some (.inl a3), [] => F_M_rankOf_2 N (L_M_rankOf N n) a1 a2 a3 h
    | _, _, _, _, _ => none)
  | false => match Nat.beq pc 11 with
  | true => (match lk lv 0, lk lv 1, lk lv 2, lk lv 3, lk lv 4, st with
    | some (.inr (.inr (0, 12, 68))), some (.inl a1), some (.inl a2), some (.inl a3), some (.inl a4), [] => F_M_rankOf_11 N (L_M_rankOf N n) a1 a2 a3 a4 h
    | _, _, _, _, _, _ => none)
  | false => match Nat.beq pc 103 with
  | true => (match lk lv 0, lk lv 3, lk lv 4, lk lv 6, st with
    | some (.inr (.inr (0, 12, 68))), some (.inl a3), some (.inr (.inl a4)), some (.inl a6), [] => F_M_rankOf_103 N (L_M_rankOf N n) a3 a4 a6 h
    | _, _, _, _, _ => none)
  | false => match Nat.beq pc 117 with
  | true => (match lk lv 0, lk lv 3, lk lv 4, lk lv 6, lk lv 7, lk lv 8, st with
    | some (.inr (.inr (0, 12, 68))), some (.inl a3), some (.inr (.inl a4)), some (.inl a6), some (.inl a7), some (.inl a8), [] => F_M_rankOf_117 N (L_M_rankOf N n) a3 a4 a6 a7 a8 h
    | _, _, _, _, _, _, _ => none)
  | false => match Nat.beq pc 163 with
  | true => (match lk lv 0, lk lv 3, lk lv 4, lk lv 6, lk lv 7, lk lv 8, st with
    | some (.inr (.inr (0, 12, 68))), some (.inl a3), some (.inr (.inl a4)), some (.inl a6), some (.inl a7), some (.inl a8), [] => F_M_rankOf_163 N (L_M_rankOf N n) a3 a4 a6 a7 a8 h
    | _, _, _, _, _, _, _ => none)
  | false => match Nat.beq pc 249 with
  | true => (match lk lv 0, lk lv 3, lk lv 4, lk lv 6, lk lv 8, lk lv 10, st with
    | some (.inr (.inr (0, 12, 68))), some (.inl a3), some (.inr (.inl a4)), some (.inl a6), some (.inr (.inl a8)), some (.inl a10), [] => F_M_rankOf_249 N (L_M_rankOf N n) a3 a4 a6 a8 a10 h
    | _, _, _, _, _, _, _ => none)
  | false => match Nat.beq pc 274 with
  | true => (match lk lv 0, lk lv 3, lk lv 4, lk lv 6, lk lv 8, lk lv 10, lk lv 11, lk lv 13, st with
    | some (.inr (.inr (0, 12, 68))), some (.inl a3), some (.inr (.inl a4)), some (.inl a6), some (.inr (.inl a8)), some (.inl a10), some (.inr (.inl a11)), some (.inl a13), [] => F_M_rankOf_274 N (L_M_rankOf N n) a3 a4 a6 a8 a10 a11 a13 h
    | _, _, _, _, _, _, _, _, _ => none)
  | false => none
def B_M_rankOf (N : Nat) (n pc : Nat) (lv : ML) (st : List MV) (h : MH) : Option (Int32 × MH) :=
  match Nat.beq pc 2 with
  | true => (match lk lv 0, lk lv 1, lk lv 2, lk lv 3, st with
    | some (.inr (.inr (0, 12, 68))), some (.inl a1), some (.inl a2), some (.inl a3), [] => ((L_M_rankOf N n).1) a1 a2 a3 h
    | _, _, _, _, _ => none)
  | false => match Nat.beq pc 11 with
  | true => (match lk lv 0, lk lv 1, lk lv 2, lk lv 3, lk lv 4, st with
    | some (.inr (.inr (0, 12, 68))), some (.inl a1), some (.inl a2), some (.inl a3), some (.inl a4), [] => ((L_M_rankOf N n).2.1) a1 a2 a3 a4 h
    | _, _, _, _, _, _ => none)
  | false => match Nat.beq pc 103 with
  | true => (match lk lv 0, lk lv 3, lk lv 4, lk lv 6, st with
    | some (.inr (.inr (0, 12, 68))), some (.inl a3), some (.inr (.inl a4)), some (.inl a6), [] => ((L_M_rankOf N n).2.2.1) a3 a4 a6 h
    | _, _, _, _, _ => none)
  | false => match Nat.beq pc 117 with
  | true => (match lk lv 0, lk lv 3, lk lv 4, lk lv 6, lk lv 7, lk lv 8, st with
    | some (.inr (.inr (0, 12, 68))), some (.inl a3), some (.inr (.inl a4)), some (.inl a6), some (.inl a7), some (.inl a8), [] => ((L_M_rankOf N n).2.2.2.1) a3 a4 a6 a7 a8 h
    | _, _, _, _, _, _, _ => none)
  | false => match Nat.beq pc 163 with
  | true => (match lk lv 0, lk lv 3, lk lv 4, lk lv 6, lk lv 7, lk lv 8, st with
    | some (.inr (.inr (0, 12, 68))), some (.inl a3), some (.inr (.inl a4)), some (.inl a6), some (.inl a7), some (.inl a8), [] => ((L_M_rankOf N n).2.2.2.2.1) a3 a4 a6 a7 a8 h
    | _, _, _, _, _, _, _ => none)
  | false => match Nat.beq pc 249 with
  | true => (match lk lv 0, lk lv 3, lk lv 4, lk lv 6, lk lv 8, lk lv 10, st with
    | some (.inr (.inr (0, 12, 68))), some (.inl a3), some (.inr (.inl a4)), some (.inl a6), some (.inr (.inl a8)), some (.inl a10), [] => ((L_M_rankOf N n).2.2.2.2.2.1) a3 a4 a6 a8 a10 h
    | _, _, _, _, _, _, _ => none)
  | false => match Nat.beq pc 274 with
  | true => (match lk lv 0, lk lv 3, lk lv 4, lk lv 6, lk lv 8, lk lv 10, lk lv 11, lk lv 13, st with
    | some (.inr (.inr (0, 12, 68))), some (.inl a3), some (.inr (.inl a4)), some (.inl a6), some (.inr (.inl a8)), some (.inl a10), some (.inr (.inl a11)), some (.inl a13), [] => ((L_M_rankOf N n).2.2.2.2.2.2) a3 a4 a6 a8 a10 a11 a13 h
    | _, _, _, _, _, _, _, _, _ => none)
  | false => none
set_option maxRecDepth 1000000 in
theorem E_M_rankOf_0 (N : Nat) (n : Nat) (a1 : Int32) (a2 : Int32) (h : MH) : seg (C_M_rankOf N) 14 0 rI T_M_rankOf [0, 2, 11, 103, 117, 163, 249, 274] (fun q lv st h => match Nat.ble 1 q with
    | true => D_M_rankOf N n q lv st h
    | false => B_M_rankOf N n q lv st h) 400 true 0 [(0, .inr (.inr (0, 12, 68))), (1, .inl a1), (2, .inl a2)] [] h = F_M_rankOf_0 N (L_M_rankOf N n) a1 a2 h := (rfl)
set_option maxRecDepth 1000000 in
theorem E_M_rankOf_2 (N : Nat) (n : Nat) (a1 : Int32) (a2 : Int32) (a3 : Int32) (h : MH) : seg (C_M_rankOf N) 14 0 rI T_M_rankOf [0, 2, 11, 103, 117, 163, 249, 274] (fun q lv st h => match Nat.ble 3 q with
    | true => D_M_rankOf N n q lv st h
    | false => B_M_rankOf N n q lv st h) 400 true 2 [(0, .inr (.inr (0, 12, 68))), (1, .inl a1), (2, .inl a2), (3, .inl a3)] [] h = F_M_rankOf_2 N (L_M_rankOf N n) a1 a2 a3 h := (rfl)
set_option maxRecDepth 1000000 in
theorem E_M_rankOf_11 (N : Nat) (n : Nat) (a1 : Int32) (a2 : Int32) (a3 : Int32) (a4 : Int32) (h : MH) : seg (C_M_rankOf N) 14 0 rI T_M_rankOf [0, 2, 11, 103, 117, 163, 249, 274] (fun q lv st h => match Nat.ble 12 q with
    | true => D_M_rankOf N n q lv st h
    | false => B_M_rankOf N n q lv st h) 400 true 11 [(0, .inr (.inr (0, 12, 68))), (1, .inl a1), (2, .inl a2), (3, .inl a3), (4, .inl a4)] [] h = F_M_rankOf_11 N (L_M_rankOf N n) a1 a2 a3 a4 h := (rfl)
set_option maxRecDepth 1000000 in
theorem E_M_rankOf_103 (N : Nat) (n : Nat) (a3 : Int32) (a4 : Int64) (a6 : Int32) (h : MH) : seg (C_M_rankOf N) 14 0 rI T_M_rankOf [0, 2, 11, 103, 117, 163, 249, 274] (fun q lv st h => match Nat.ble 104 q with
    | true => D_M_rankOf N n q lv st h
    | false => B_M_rankOf N n q lv st h) 400 true 103 [(0, .inr (.inr (0, 12, 68))), (3, .inl a3), (4, .inr (.inl a4)), (6, .inl a6)] [] h = F_M_rankOf_103 N (L_M_rankOf N n) a3 a4 a6 h := (rfl)
set_option maxRecDepth 1000000 in
theorem E_M_rankOf_117 (N : Nat) (n : Nat) (a3 : Int32) (a4 : Int64) (a6 : Int32) (a7 : Int32) (a8 : Int32) (h : MH) : seg (C_M_rankOf N) 14 0 rI T_M_rankOf [0, 2, 11, 103, 117, 163, 249, 274] (fun q lv st h => match Nat.ble 118 q with
    | true => D_M_rankOf N n q lv st h
    | false => B_M_rankOf N n q lv st h) 400 true 117 [(0, .inr (.inr (0, 12, 68))), (3, .inl a3), (4, .inr (.inl a4)), (6, .inl a6), (7, .inl a7), (8, .inl a8)] [] h = F_M_rankOf_117 N (L_M_rankOf N n) a3 a4 a6 a7 a8 h := (rfl)
set_option maxRecDepth 1000000 in
theorem E_M_rankOf_163 (N : Nat) (n : Nat) (a3 : Int32) (a4 : Int64) (a6 : Int32) (a7 : Int32) (a8 : Int32) (h : MH) : seg (C_M_rankOf N) 14 0 rI T_M_rankOf [0, 2, 11, 103, 117, 163, 249, 274] (fun q lv st h => match Nat.ble 164 q with
    | true => D_M_rankOf N n q lv st h
    | false => B_M_rankOf N n q lv st h) 400 true 163 [(0, .inr (.inr (0, 12, 68))), (3, .inl a3), (4, .inr (.inl a4)), (6, .inl a6), (7, .inl a7), (8, .inl a8)] [] h = F_M_rankOf_163 N (L_M_rankOf N n) a3 a4 a6 a7 a8 h := (rfl)
set_option maxRecDepth 1000000 in
theorem E_M_rankOf_249 (N : Nat) (n : Nat) (a3 : Int32) (a4 : Int64) (a6 : Int32) (a8 : Int64) (a10 : Int32) (h : MH) : seg (C_M_rankOf N) 14 0 rI T_M_rankOf [0, 2, 11, 103, 117, 163, 249, 274] (fun q lv st h => match Nat.ble 250 q with
    | true => D_M_rankOf N n q lv st h
    | false => B_M_rankOf N n q lv st h) 400 true 249 [(0, .inr (.inr (0, 12, 68))), (3, .inl a3), (4, .inr (.inl a4)), (6, .inl a6), (8, .inr (.inl a8)), (10, .inl a10)] [] h = F_M_rankOf_249 N (L_M_rankOf N n) a3 a4 a6 a8 a10 h := (rfl)
set_option maxRecDepth 1000000 in
theorem E_M_rankOf_274 (N : Nat) (n : Nat) (a3 : Int32) (a4 : Int64) (a6 : Int32) (a8 : Int64) (a10 : Int32) (a11 : Int64) (a13 : Int32) (h : MH) : seg (C_M_rankOf N) 14 0 rI T_M_rankOf [0, 2, 11, 103, 117, 163, 249, 274] (fun q lv st h => match Nat.ble 275 q with
    | true => D_M_rankOf N n q lv st h
    | false => B_M_rankOf N n q lv st h) 400 true 274 [(0, .inr (.inr (0, 12, 68))), (3, .inl a3), (4, .inr (.inl a4)), (6, .inl a6), (8, .inr (.inl a8)), (10, .inl a10), (11, .inr (.inl a11)), (13, .inl a13)] [] h = F_M_rankOf_274 N (L_M_rankOf N n) a3 a4 a6 a8 a10 a11 a13 h := (rfl)
def T_M_areMarks : List (List (Option RW)) := [
  [some (.iload_n 1, 1, [1], 0, 0), some (.ifCond .lt 17, 3, [18], 0, 0), none, none, some (.iload_n 1, 1, [1], 0, 0), some (.iconst 1, 1, [], 1, 0), some (.aload_n 0, 1, [0], 0, 0), some (.getfield 351, 3, [12, 33, 0], 0, 0), none, none, some (.ishl, 1, [], 0, 0), some (.if_icmp .ge 7, 3, [18], 0, 0), none, none, some (.iconst 1, 1, [], 1, 0), some (.goto 4, 3, [19], 0, 0), none, none, some (.iconst 0, 1, [], 0, 0), some (.ireturn, 1, [], 0, 0)]]
def f_M_areMarks (N : Nat) (a1 : Int32) (h : MH) : Option (Int32 × MH) :=
  if a1 < 0 then
  (some (0, h))
  else
  (if ((1 : Int32) <<< ((gI h 68 33) &&& 31)) ≤ a1 then
  (some (0, h))
  else
  (some (1, h)))
def C_M_areMarks (N : Nat) : MC := (KDL, false, (fun _ => 0), jsB, (fun _ _ _ => none), (fun _ _ _ => none), (fun _ _ _ => none), (fun _ _ _ => none))
def D_M_areMarks (N : Nat) (n pc : Nat) (lv : ML) (st : List MV) (h : MH) : Option (Int32 × MH) :=
  match Nat.beq pc 0 with
  | true => (match lk lv 0, lk lv 1, st with
    | some (.inr (.inr (0, 12, 68))), some (.inl a1), [] => f_M_areMarks N a1 h
    | _, _, _ => none)
  | false => none
set_option maxRecDepth 1000000 in
theorem E_M_areMarks_0 (N : Nat) (n : Nat) (a1 : Int32) (h : MH) : seg (C_M_areMarks N) 2 1 rI T_M_areMarks [0] (fun q lv st h => match Nat.ble 1 q with
    | true => D_M_areMarks N n q lv st h
    | false => none) 400 true 0 [(0, .inr (.inr (0, 12, 68))), (1, .inl a1)] [] h = f_M_areMarks N a1 h := (rfl)
def T_M_rank : List (List (Option RW)) := [
  [some (.aload_n 0, 1, [0], 0, 0), some (.iload_n 1, 1, [1], 0, 0), some (.invokevirtual 471, 3, [0, 246, 2, 0], 0, 0), none, none, some (.ifCond .eq 12, 3, [17], 0, 0), none, none, some (.iload_n 2, 1, [2], 0, 0), some (.ifCond .lt 8, 3, [17], 0, 0), none, none, some (.iload_n 2, 1, [2], 0, 0), some (.iconst 1, 1, [], 1, 0), some (.if_icmp .le 9, 3, [23], 0, 0), none, none, some (.aload_n 0, 1, [0], 0, 0), some (.iconst 1, 1, [], 1, 0), some (.invokevirtual 342, 3, [0, 168, 2, 0], 0, 0), none, none, some (.ireturn, 1, [], 0, 0), some (.aload_n 0, 1, [0], 0, 0), some (.iload_n 1, 1, [1], 0, 0), some (.bipush 63, 2, [], 63, 0), none, some (.invokevirtual 474, 3, [0, 245, 3, 0], 0, 0), none, none, some (.istore_n 3, 1, [3], 0, 0), some (.aload_n 0, 1, [0], 0, 0)],
  [some (.iload_n 2, 1, [2], 0, 0), some (.ifCond .ne 7, 3, [40], 0, 0), none, none, some (.iload_n 3, 1, [3], 0, 0), some (.goto 9, 3, [46], 0, 0), none, none, some (.aload_n 0, 1, [0], 0, 0), some (.getfield 348, 3, [12, 32, 0], 0, 0), none, none, some (.iload_n 3, 1, [3], 0, 0), some (.isub, 1, [], 0, 0), some (.invokevirtual 180, 3, [0, 169, 2, 0], 0, 0), none, none, some (.ireturn, 1, [], 0, 0)]]
def f_M_rank (N : Nat) (a1 : Int32) (a2 : Int32) (h : MH) : Option (Int32 × MH) :=
  (f_M_areMarks N a1 h).bind (fun x1 =>
  if x1.1 = 0 then
  ((f_M_refuse N 1 x1.2).bind (fun x2 =>
  some (x2.1, x2.2)))
  else
  (if a2 < 0 then
  ((f_M_refuse N 1 x1.2).bind (fun x3 =>
  some (x3.1, x3.2)))
  else
  (if a2 ≤ 1 then
  ((f_M_rankOf N a1 63 x1.2).bind (fun x4 =>
  if a2 = 0 then
  ((f_M_gives N x4.1 x4.2).bind (fun x5 =>
  some (x5.1, x5.2)))
  else
  ((f_M_gives N ((gI x4.2 68 32) - x4.1) x4.2).bind (fun x6 =>
  some (x6.1, x6.2)))))
  else
  ((f_M_refuse N 1 x1.2).bind (fun x7 =>
  some (x7.1, x7.2))))))
def C_M_rank (N : Nat) : MC := (KDL, false, (fun _ => 0), jsB, (fun j => match Nat.beq j 168 with
    | true => w_M_refuse (f_M_refuse N)
    | false => match Nat.beq j 169 with
    | true => w_M_gives (f_M_gives N)
    | false => match Nat.beq j 245 with
    | true => w_M_rankOf (f_M_rankOf N)
    | false => match Nat.beq j 246 with
    | true => w_M_areMarks (f_M_areMarks N)
    | false => fun _ _ => none), (fun _ _ _ => none), (fun _ _ _ => none), (fun _ _ _ => none))
def D_M_rank (N : Nat) (n pc : Nat) (lv : ML) (st : List MV) (h : MH) : Option (Int32 × MH) :=
  match Nat.beq pc 0 with
  | true => (match lk lv 0, lk lv 1, lk lv 2, st with
    | some (.inr (.inr (0, 12, 68))), some (.inl a1), some (.inl a2), [] => f_M_rank N a1 a2 h
    | _, _, _, _ => none)
  | false => none
set_option maxRecDepth 1000000 in
theorem E_M_rank_0 (N : Nat) (n : Nat) (a1 : Int32) (a2 : Int32) (h : MH) : seg (C_M_rank N) 4 0 rI T_M_rank [0] (fun q lv st h => match Nat.ble 1 q with
    | true => D_M_rank N n q lv st h
    | false => none) 400 true 0 [(0, .inr (.inr (0, 12, 68))), (1, .inl a1), (2, .inl a2)] [] h = f_M_rank N a1 a2 h := (rfl)
def T_M_apart : List (List (Option RW)) := [
  [some (.aload_n 0, 1, [0], 0, 0), some (.iload_n 1, 1, [1], 0, 0), some (.invokevirtual 363, 3, [0, 206, 2, 0], 0, 0), none, none, some (.ifCond .eq 11, 3, [16], 0, 0), none, none, some (.aload_n 0, 1, [0], 0, 0), some (.iload_n 2, 1, [2], 0, 0), some (.invokevirtual 471, 3, [0, 246, 2, 0], 0, 0), none, none, some (.ifCond .ne 9, 3, [22], 0, 0), none, none, some (.aload_n 0, 1, [0], 0, 0), some (.iconst 1, 1, [], 1, 0), some (.invokevirtual 342, 3, [0, 168, 2, 0], 0, 0), none, none, some (.ireturn, 1, [], 0, 0), some (.aload_n 0, 1, [0], 0, 0), some (.aload_n 0, 1, [0], 0, 0), some (.iload_n 2, 1, [2], 0, 0), some (.bipush 63, 2, [], 63, 0), none, some (.invokevirtual 474, 3, [0, 245, 3, 0], 0, 0), none, none, some (.aload_n 0, 1, [0], 0, 0), some (.iload_n 2, 1, [2], 0, 0)],
  [some (.bipush 63, 2, [], 63, 0), none, some (.iconst 1, 1, [], 1, 0), some (.iload_n 1, 1, [1], 0, 0), some (.ishl, 1, [], 0, 0), some (.iconst (-1), 1, [], (-1), 0), some (.ixor, 1, [], 0, 0), some (.iand, 1, [], 0, 0), some (.invokevirtual 474, 3, [0, 245, 3, 0], 0, 0), none, none, some (.iconst 1, 1, [], 1, 0), some (.iadd, 1, [], 0, 0), some (.if_icmp .ne 7, 3, [52], 0, 0), none, none, some (.iconst 1, 1, [], 1, 0), some (.goto 4, 3, [53], 0, 0), none, none, some (.iconst 0, 1, [], 0, 0), some (.invokevirtual 180, 3, [0, 169, 2, 0], 0, 0), none, none, some (.ireturn, 1, [], 0, 0)]]
def f_M_apart (N : Nat) (a1 : Int32) (a2 : Int32) (h : MH) : Option (Int32 × MH) :=
  (f_M_isCell N a1 h).bind (fun x1 =>
  if x1.1 = 0 then
  ((f_M_refuse N 1 x1.2).bind (fun x2 =>
  some (x2.1, x2.2)))
  else
  ((f_M_areMarks N a2 x1.2).bind (fun x3 =>
  if x3.1 = 0 then
  ((f_M_refuse N 1 x3.2).bind (fun x4 =>
  some (x4.1, x4.2)))
  else
  ((f_M_rankOf N a2 63 x3.2).bind (fun x5 =>
  (f_M_rankOf N a2 (63 &&& (((1 : Int32) <<< (a1 &&& 31)) ^^^ ((-1)))) x5.2).bind (fun x6 =>
  if x5.1 = (x6.1 + 1) then
  ((f_M_gives N 1 x6.2).bind (fun x7 =>
  some (x7.1, x7.2)))
  else
  ((f_M_gives N 0 x6.2).bind (fun x8 =>
  some (x8.1, x8.2)))))))))
def C_M_apart (N : Nat) : MC := (KDL, false, (fun _ => 0), jsB, (fun j => match Nat.beq j 168 with
    | true => w_M_refuse (f_M_refuse N)
    | false => match Nat.beq j 169 with
    | true => w_M_gives (f_M_gives N)
    | false => match Nat.beq j 206 with
    | true => w_M_isCell (f_M_isCell N)
    | false => match Nat.beq j 245 with
    | true => w_M_rankOf (f_M_rankOf N)
    | false => match Nat.beq j 246 with
    | true => w_M_areMarks (f_M_areMarks N)
    | false => fun _ _ => none), (fun _ _ _ => none), (fun _ _ _ => none), (fun _ _ _ => none))
def D_M_apart (N : Nat) (n pc : Nat) (lv : ML) (st : List MV) (h : MH) : Option (Int32 × MH) :=
  match Nat.beq pc 0 with
  | true => (match lk lv 0, lk lv 1, lk lv 2, st with
    | some (.inr (.inr (0, 12, 68))), some (.inl a1), some (.inl a2), [] => f_M_apart N a1 a2 h
    | _, _, _, _ => none)
  | false => none
set_option maxRecDepth 1000000 in
theorem E_M_apart_0 (N : Nat) (n : Nat) (a1 : Int32) (a2 : Int32) (h : MH) : seg (C_M_apart N) 3 0 rI T_M_apart [0] (fun q lv st h => match Nat.ble 1 q with
    | true => D_M_apart N n q lv st h
    | false => none) 400 true 0 [(0, .inr (.inr (0, 12, 68))), (1, .inl a1), (2, .inl a2)] [] h = f_M_apart N a1 a2 h := (rfl)
def T_M_shake : List (List (Option RW)) := [
  [some (.iload_n 1, 1, [1], 0, 0), some (.invokestatic 369, 3, [2, 209, 1, 0], 0, 0), none, none, some (.ifCond .eq 21, 3, [25], 0, 0), none, none, some (.aload_n 0, 1, [0], 0, 0), some (.iload_n 2, 1, [2], 0, 0), some (.invokevirtual 363, 3, [0, 206, 2, 0], 0, 0), none, none, some (.ifCond .eq 13, 3, [25], 0, 0), none, none, some (.iload_n 3, 1, [3], 0, 0), some (.ifCond .lt 9, 3, [25], 0, 0), none, none, some (.iload_n 3, 1, [3], 0, 0), some (.bipush 99, 2, [], 99, 0), none, some (.if_icmp .le 9, 3, [31], 0, 0), none, none, some (.aload_n 0, 1, [0], 0, 0), some (.iconst 1, 1, [], 1, 0), some (.invokevirtual 188, 3, [0, 167, 2, 0], 0, 0), none, none, some (.ireturn, 1, [], 0, 0), some (.aload_n 0, 1, [0], 0, 0)],
  [some (.getfield 360, 3, [12, 75, 0], 0, 0), none, none, some (.bipush 30, 2, [], 30, 0), none, some (.if_icmp .ne 9, 3, [46], 0, 0), none, none, some (.aload_n 0, 1, [0], 0, 0), some (.iconst 4, 1, [], 4, 0), some (.invokevirtual 188, 3, [0, 167, 2, 0], 0, 0), none, none, some (.ireturn, 1, [], 0, 0), some (.aload_n 0, 1, [0], 0, 0), some (.getfield 153, 3, [12, 76, 2, 1, 30, 42], 0, 0), none, none, some (.aload_n 0, 1, [0], 0, 0), some (.getfield 360, 3, [12, 75, 0], 0, 0), none, none, some (.iload_n 1, 1, [1], 0, 0), some (.iastore, 1, [], 0, 0), some (.aload_n 0, 1, [0], 0, 0), some (.getfield 156, 3, [12, 77, 2, 1, 30, 43], 0, 0), none, none, some (.aload_n 0, 1, [0], 0, 0), some (.getfield 360, 3, [12, 75, 0], 0, 0), none, none],
  [some (.iload_n 2, 1, [2], 0, 0), some (.iastore, 1, [], 0, 0), some (.aload_n 0, 1, [0], 0, 0), some (.getfield 159, 3, [12, 78, 2, 1, 30, 44], 0, 0), none, none, some (.aload_n 0, 1, [0], 0, 0), some (.getfield 360, 3, [12, 75, 0], 0, 0), none, none, some (.iload_n 3, 1, [3], 0, 0), some (.iastore, 1, [], 0, 0), some (.aload_n 0, 1, [0], 0, 0), some (.dup, 1, [], 0, 0), some (.getfield 360, 3, [12, 75, 0], 0, 0), none, none, some (.iconst 1, 1, [], 1, 0), some (.iadd, 1, [], 0, 0), some (.putfield 360, 3, [12, 75, 0], 0, 0), none, none, some (.aload_n 0, 1, [0], 0, 0), some (.iconst 0, 1, [], 0, 0), some (.invokevirtual 188, 3, [0, 167, 2, 0], 0, 0), none, none, some (.ireturn, 1, [], 0, 0)]]
def f_M_shake (N : Nat) (a1 : Int32) (a2 : Int32) (a3 : Int32) (h : MH) : Option (Int32 × MH) :=
  (f_M_isYear N a1 h).bind (fun x1 =>
  if x1.1 = 0 then
  ((f_M_is N 1 x1.2).bind (fun x2 =>
  match narOK 1 x2.1 with
  | true => some (x2.1, x2.2)
  | false => none))
  else
  ((f_M_isCell N a2 x1.2).bind (fun x3 =>
  if x3.1 = 0 then
  ((f_M_is N 1 x3.2).bind (fun x4 =>
  match narOK 1 x4.1 with
  | true => some (x4.1, x4.2)
  | false => none))
  else
  (if a3 < 0 then
  ((f_M_is N 1 x3.2).bind (fun x5 =>
  match narOK 1 x5.1 with
  | true => some (x5.1, x5.2)
  | false => none))
  else
  (if a3 ≤ 99 then
  (if (gI x3.2 68 75) = 30 then
  ((f_M_is N 4 x3.2).bind (fun x6 =>
  match narOK 1 x6.1 with
  | true => some (x6.1, x6.2)
  | false => none))
  else
  (if inB (gI x3.2 68 75) 30 = true then
  (let h7 : MH := sI x3.2 110 (iN (gI x3.2 68 75)) a1
  if inB (gI h7 68 75) 30 = true then
  (let h8 : MH := sI h7 111 (iN (gI h7 68 75)) a2
  if inB (gI h8 68 75) 30 = true then
  (let h9 : MH := sI h8 112 (iN (gI h8 68 75)) a3
  let h10 : MH := sI h9 68 75 ((gI h9 68 75) + 1)
  (f_M_is N 0 h10).bind (fun x11 =>
  match narOK 1 x11.1 with
  | true => some (x11.1, x11.2)
  | false => none))
  else none)
  else none)
  else none))
  else
  ((f_M_is N 1 x3.2).bind (fun x12 =>
  match narOK 1 x12.1 with
  | true => some (x12.1, x12.2)
  | false => none)))))))
def C_M_shake (N : Nat) : MC := (KDL, false, (fun _ => 0), jsB, (fun j => match Nat.beq j 167 with
    | true => w_M_is (f_M_is N)
    | false => match Nat.beq j 206 with
    | true => w_M_isCell (f_M_isCell N)
    | false => match Nat.beq j 209 with
    | true => w_M_isYear (f_M_isYear N)
    | false => fun _ _ => none), (fun _ _ _ => none), (fun _ _ _ => none), (fun _ _ _ => none))
def D_M_shake (N : Nat) (n pc : Nat) (lv : ML) (st : List MV) (h : MH) : Option (Int32 × MH) :=
  match Nat.beq pc 0 with
  | true => (match lk lv 0, lk lv 1, lk lv 2, lk lv 3, st with
    | some (.inr (.inr (0, 12, 68))), some (.inl a1), some (.inl a2), some (.inl a3), [] => f_M_shake N a1 a2 a3 h
    | _, _, _, _, _ => none)
  | false => none
set_option maxRecDepth 1000000 in
theorem E_M_shake_0 (N : Nat) (n : Nat) (a1 : Int32) (a2 : Int32) (a3 : Int32) (h : MH) : seg (C_M_shake N) 4 1 rI T_M_shake [0] (fun q lv st h => match Nat.ble 1 q with
    | true => D_M_shake N n q lv st h
    | false => none) 400 true 0 [(0, .inr (.inr (0, 12, 68))), (1, .inl a1), (2, .inl a2), (3, .inl a3)] [] h = f_M_shake N a1 a2 a3 h := (rfl)
