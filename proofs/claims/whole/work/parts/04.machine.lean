/-! THE SMALL MACHINE: values, heap, locals, one step, a run to the next cut -/
abbrev MV : Type := Int32 ⊕ Int64 ⊕ (Nat × Nat × Nat)
abbrev MH : Type := Nat × (Nat → Nat → Int32) × (Nat → Nat → Int64) × (Nat → Nat → Nat)
abbrev ML : Type := List (Nat × MV)
abbrev RW : Type := Instr × Nat × List Nat × Int32 × Int64
def gI (h : MH) (c k : Nat) : Int32 := h.2.1 c k
def gJ (h : MH) (c k : Nat) : Int64 := h.2.2.1 c k
def gR (h : MH) (c k : Nat) : Nat := h.2.2.2 c k
def sI (h : MH) (c k : Nat) (v : Int32) : MH := (h.1, (fun a b => if a = c ∧ b = k then v else h.2.1 a b), h.2.2)
def sJ (h : MH) (c k : Nat) (v : Int64) : MH := (h.1, h.2.1, (fun a b => if a = c ∧ b = k then v else h.2.2.1 a b), h.2.2.2)
def sR (h : MH) (c k : Nat) (v : Nat) : MH := (h.1, h.2.1, h.2.2.1, (fun a b => if a = c ∧ b = k then v else h.2.2.2 a b))
/-- a new cell, all 0 -/
def sN (h : MH) : MH := (h.1 + 1, (fun a b => if a = h.1 + 1 then 0 else h.2.1 a b), (fun a b => if a = h.1 + 1 then 0 else h.2.2.1 a b), (fun a b => if a = h.1 + 1 then 0 else h.2.2.2 a b))
/-- rows copied: n places from sp of the row c0 to dp of the row c1 -/
def cI (h : MH) (c0 c1 sp dp n : Nat) : MH := (h.1, (fun a b => if a = c1 ∧ dp ≤ b ∧ b < dp + n then h.2.1 c0 (sp + (b - dp)) else h.2.1 a b), h.2.2)
def cJ (h : MH) (c0 c1 sp dp n : Nat) : MH := (h.1, h.2.1, (fun a b => if a = c1 ∧ dp ≤ b ∧ b < dp + n then h.2.2.1 c0 (sp + (b - dp)) else h.2.2.1 a b), h.2.2.2)
def inB (i : Int32) (n : Nat) : Bool := !(decide (i < 0) || decide (n ≤ i.toNatClampNeg))
def iN (i : Int32) : Nat := i.toNatClampNeg
def is2 : MV → Bool
  | .inr (.inl _) => true
  | _ => false
def wd : List MV → Nat
  | [] => 0
  | v :: r => (if is2 v = true then 2 else 1) + wd r
def is7 : MV → Bool
  | .inr (.inr (kd, _, _)) => Nat.beq kd 7
  | _ => false
def no7 (st : List MV) : Bool := st.all (fun v => !(is7 v))
def lk : ML → Nat → Option MV
  | [], _ => none
  | q :: r, k => match Nat.beq q.1 k with
    | true => some q.2
    | false => lk r k
def st1 (lv : ML) (i : Nat) (v : MV) : ML := (i, v) :: lv.filter (fun q => !(Nat.beq q.1 i) && !(Nat.beq (q.1 + 1) i && is2 q.2))
def st2 (lv : ML) (i : Nat) (v : MV) : ML := (i, v) :: lv.filter (fun q => !(Nat.beq q.1 i) && (!(Nat.beq q.1 (i + 1)) && !(Nat.beq (q.1 + 1) i && is2 q.2)))
/-- the text constants: lengths and bytes -/
abbrev MT : Type := List (List Int32)
/-- what a method's surroundings are: the layout of cells; whether they are still being made; the script; the callees -/
abbrev MC : Type := List (Nat × Nat) × Bool × (Nat → Int32) × MT × (Nat → List MV → MH → Option (Int32 × MH)) × (Nat → List MV → MH → Option (Int64 × MH)) × (Nat → List MV → MH → Option (Nat × MH)) × (Nat → List MV → MH → Option MH)
def kOK (KD : List (Nat × Nat)) (n kd x c : Nat) : Bool := Nat.ble c n && (match KD[c]? with
  | some q => Nat.beq q.1 kd && Nat.beq q.2 x
  | none => false)
/-- what an int must be to be answered by a method of this type (0 int, 1 boolean, 2 byte, 3 char) -/
def narOK (t : Nat) (x : Int32) : Bool := match Nat.beq t 0 with
  | true => true
  | false => (match Nat.beq t 1 with
    | true => decide (x = 0) || decide (x = 1)
    | false => (match Nat.beq t 2 with
      | true => decide (x.toInt8.toInt32 = x)
      | false => decide ((x.toUInt32 % 65536).toInt32 = x)))
section MMstep
variable {RT : Type} (C : MC) (nL rz : Nat) (ret : Option MV → MH → Option RT) (next : Nat → ML → List MV → MH → Option RT)
def xI2 (f : Int32 → Int32 → Int32) (pc : Nat) (lv : ML) (st : List MV) (h : MH) : Option RT := match st with
  | .inl y :: .inl x :: r => next (pc + 1) lv (.inl (f x y) :: r) h
  | _ => none
def xI2d (f : Int32 → Int32 → Int32) (pc : Nat) (lv : ML) (st : List MV) (h : MH) : Option RT := match st with
  | .inl y :: .inl x :: r => if y = 0 then none else next (pc + 1) lv (.inl (f x y) :: r) h
  | _ => none
def xI1 (f : Int32 → Int32) (pc : Nat) (lv : ML) (st : List MV) (h : MH) : Option RT := match st with
  | .inl x :: r => next (pc + 1) lv (.inl (f x) :: r) h
  | _ => none
def xJ2 (f : Int64 → Int64 → Int64) (pc : Nat) (lv : ML) (st : List MV) (h : MH) : Option RT := match st with
  | .inr (.inl y) :: .inr (.inl x) :: r => next (pc + 1) lv (.inr (.inl (f x y)) :: r) h
  | _ => none
def xJ2d (f : Int64 → Int64 → Int64) (pc : Nat) (lv : ML) (st : List MV) (h : MH) : Option RT := match st with
  | .inr (.inl y) :: .inr (.inl x) :: r => if y = 0 then none else next (pc + 1) lv (.inr (.inl (f x y)) :: r) h
  | _ => none
def xJs (f : Int64 → Int32 → Int64) (pc : Nat) (lv : ML) (st : List MV) (h : MH) : Option RT := match st with
  | .inl y :: .inr (.inl x) :: r => next (pc + 1) lv (.inr (.inl (f x y)) :: r) h
  | _ => none
/-- a load of a kind (0 int, 1 long, 2 reference) -/
def xLoad (t i pc : Nat) (lv : ML) (st : List MV) (h : MH) : Option RT := match lk lv i with
  | some (.inl x) => (match Nat.beq t 0 with
    | true => next pc lv (.inl x :: st) h
    | false => none)
  | some (.inr (.inl x)) => (match Nat.beq t 1 with
    | true => next pc lv (.inr (.inl x) :: st) h
    | false => none)
  | some (.inr (.inr x)) => (match Nat.beq t 2 with
    | true => next pc lv (.inr (.inr x) :: st) h
    | false => none)
  | none => none
def xStore (t i pc : Nat) (lv : ML) (st : List MV) (h : MH) : Option RT := match st with
  | .inl x :: r => (match Nat.beq t 0 && Nat.ble (i + 1) nL with
    | true => next pc (st1 lv i (.inl x)) r h
    | false => none)
  | .inr (.inl x) :: r => (match Nat.beq t 1 && Nat.ble (i + 2) nL with
    | true => next pc (st2 lv i (.inr (.inl x))) r h
    | false => none)
  | .inr (.inr x) :: r => (match Nat.beq t 2 && Nat.ble (i + 1) nL with
    | true => next pc (st1 lv i (.inr (.inr x))) r h
    | false => none)
  | _ => none
def xIinc (i pc : Nat) (v : Int32) (lv : ML) (st : List MV) (h : MH) : Option RT := match lk lv i with
  | some (.inl x) => (match Nat.ble (i + 1) nL with
    | true => next pc (st1 lv i (.inl (x + v))) st h
    | false => none)
  | _ => none
def xIc (cd : Jvm.ClassFile.Cond) (tgt pc : Nat) (lv : ML) (st : List MV) (h : MH) : Option RT := match st with
  | .inl y :: .inl x :: r => (match cd with
    | .eq => if x = y then next tgt lv r h else next (pc + 3) lv r h
    | .ne => if x = y then next (pc + 3) lv r h else next tgt lv r h
    | .lt => if x < y then next tgt lv r h else next (pc + 3) lv r h
    | .ge => if y ≤ x then next tgt lv r h else next (pc + 3) lv r h
    | .gt => if y < x then next tgt lv r h else next (pc + 3) lv r h
    | .le => if x ≤ y then next tgt lv r h else next (pc + 3) lv r h)
  | _ => none
def xIf (cd : Jvm.ClassFile.Cond) (tgt pc : Nat) (lv : ML) (st : List MV) (h : MH) : Option RT := match st with
  | .inl x :: r => (match cd with
    | .eq => if x = 0 then next tgt lv r h else next (pc + 3) lv r h
    | .ne => if x = 0 then next (pc + 3) lv r h else next tgt lv r h
    | .lt => if x < 0 then next tgt lv r h else next (pc + 3) lv r h
    | .ge => if 0 ≤ x then next tgt lv r h else next (pc + 3) lv r h
    | .gt => if 0 < x then next tgt lv r h else next (pc + 3) lv r h
    | .le => if x ≤ 0 then next tgt lv r h else next (pc + 3) lv r h)
  | _ => none
def xSw (x : Int32) (lv : ML) (r : List MV) (h : MH) (dflt : Nat) : List Nat → Nat → Option RT
  | [], _ => next dflt lv r h
  | t :: ts, k => if x = nI k then next t lv r h else xSw x lv r h dflt ts (k + 1)
/-- an array's element (iaload 1, laload 2, baload 3, aaload 5) -/
def xAld (t pc : Nat) (lv : ML) (st : List MV) (h : MH) : Option RT := match st with
  | .inl i :: .inr (.inr (kd, n, c)) :: r => (match t, kd with
    | 1, 1 => if inB i n = true then next (pc + 1) lv (.inl (gI h c (iN i)) :: r) h else none
    | 1, 7 => if inB i n = true then next (pc + 1) lv (.inl (C.2.2.1 (iN i)) :: r) h else none
    | 2, 2 => if inB i n = true then next (pc + 1) lv (.inr (.inl (gJ h c (iN i))) :: r) h else none
    | 3, 3 => if inB i n = true then next (pc + 1) lv (.inl (gI h c (iN i)) :: r) h else none
    | 3, 4 => if inB i n = true then next (pc + 1) lv (.inl (gI h c (iN i)) :: r) h else none
    | 3, 9 => if inB i ((C.2.2.2.1.getD n []).length) = true then next (pc + 1) lv (.inl ((C.2.2.2.1.getD n []).getD (iN i) 0) :: r) h else none
    | 5, 5 => if inB i n = true then (match C.2.1 with
      | false => next (pc + 1) lv (.inr (.inr (0, 9, gR h c (iN i))) :: r) h
      | true => (match kOK C.1 h.1 0 9 (gR h c (iN i)) with
        | true => next (pc + 1) lv (.inr (.inr (0, 9, gR h c (iN i))) :: r) h
        | false => none)) else none
    | _, _ => none)
  | _ => none
def xLen (pc : Nat) (lv : ML) (st : List MV) (h : MH) : Option RT := match st with
  | .inr (.inr (kd, n, _)) :: r => (match kd with
    | 1 | 2 | 3 | 4 | 5 | 7 => next (pc + 1) lv (.inl (nI n) :: r) h
    | 9 => next (pc + 1) lv (.inl (nI (C.2.2.2.1.getD n []).length) :: r) h
    | _ => none)
  | _ => none
def xAst (t pc : Nat) (lv : ML) (st : List MV) (h : MH) : Option RT := match st with
  | .inl x :: .inl i :: .inr (.inr (kd, n, c)) :: r => (match t, kd with
    | 1, 1 => if inB i n = true then next (pc + 1) lv r (sI h c (iN i) x) else none
    | 3, 3 => if inB i n = true then next (pc + 1) lv r (sI h c (iN i) x.toInt8.toInt32) else none
    | 3, 4 => if inB i n = true then next (pc + 1) lv r (sI h c (iN i) (x &&& 1)) else none
    | _, _ => none)
  | .inr (.inl x) :: .inl i :: .inr (.inr (kd, n, c)) :: r => (match t, kd with
    | 2, 2 => if inB i n = true then next (pc + 1) lv r (sJ h c (iN i) x) else none
    | _, _ => none)
  | .inr (.inr (kv, cv, v)) :: .inl i :: .inr (.inr (kd, n, c)) :: r => (match t, kd, kv, cv with
    | 5, 5, 0, 9 => if inB i n = true then next (pc + 1) lv r (sR h c (iN i) v) else none
    | _, _, _, _ => none)
  | _ => none
def xGet (aux : List Nat) (pc : Nat) (lv : ML) (st : List MV) (h : MH) : Option RT := match st with
  | .inr (.inr (kd, x, c)) :: r => (match aux with
    | [ci, k, 0] => (match Nat.beq kd 0 && Nat.beq x ci with
      | true => next (pc + 3) lv (.inl (gI h c k) :: r) h
      | false => none)
    | [ci, k, 1] => (match Nat.beq kd 0 && Nat.beq x ci with
      | true => next (pc + 3) lv (.inr (.inl (gJ h c k)) :: r) h
      | false => none)
    | [ci, k, 2, kt, xt, off] => (match Nat.beq kd 0 && Nat.beq x ci with
      | true => (match C.2.1 with
        | false => next (pc + 3) lv (.inr (.inr (kt, xt, c + off)) :: r) h
        | true => (match kOK C.1 h.1 kt xt (c + off) && Nat.beq (gR h c k) (c + off) with
          | true => next (pc + 3) lv (.inr (.inr (kt, xt, c + off)) :: r) h
          | false => none))
      | false => none)
    | [ci, k, 3, kt, xt] => (match Nat.beq kd 0 && Nat.beq x ci with
      | true => (match C.2.1 with
        | false => next (pc + 3) lv (.inr (.inr (kt, xt, gR h c k)) :: r) h
        | true => (match kOK C.1 h.1 kt xt (gR h c k) with
          | true => next (pc + 3) lv (.inr (.inr (kt, xt, gR h c k)) :: r) h
          | false => none))
      | false => none)
    | [4] => (match Nat.beq kd 8 with
      | true => next (pc + 3) lv (.inr (.inr (9, x, 0)) :: r) h
      | false => none)
    | [5] => (match Nat.beq kd 8 with
      | true => next (pc + 3) lv (.inl 0 :: r) h
      | false => none)
    | _ => none)
  | _ => none
def xPut (aux : List Nat) (pc : Nat) (lv : ML) (st : List MV) (h : MH) : Option RT := match st with
  | .inl v :: .inr (.inr (kd, x, c)) :: r => (match aux with
    | [ci, k, 0] => (match Nat.beq kd 0 && Nat.beq x ci with
      | true => next (pc + 3) lv r (sI h c k v)
      | false => none)
    | [ci, k, 0, 1] => (match Nat.beq kd 0 && Nat.beq x ci && narOK 1 v with
      | true => next (pc + 3) lv r (sI h c k v)
      | false => none)
    | _ => none)
  | .inr (.inl v) :: .inr (.inr (kd, x, c)) :: r => (match aux with
    | [ci, k, 1] => (match Nat.beq kd 0 && Nat.beq x ci with
      | true => next (pc + 3) lv r (sJ h c k v)
      | false => none)
    | _ => none)
  | .inr (.inr (kv, xv, v)) :: .inr (.inr (kd, x, c)) :: r => (match aux with
    | [ci, k, 2, kt, xt, _] => (match Nat.beq kd 0 && Nat.beq x ci && Nat.beq kt kv && Nat.beq xt xv && C.2.1 with
      | true => next (pc + 3) lv r (sR h c k v)
      | false => none)
    | [ci, k, 3, kt, xt] => (match Nat.beq kd 0 && Nat.beq x ci && Nat.beq kt kv && Nat.beq xt xv with
      | true => next (pc + 3) lv r (sR h c k v)
      | false => none)
    | _ => none)
  | _ => none
/-- a new cell of the kind that the layout has next -/
def xNew (kd x d pc : Nat) (lv : ML) (r : List MV) (h : MH) : Option RT := match kOK C.1 (h.1 + 1) kd x (h.1 + 1) && C.2.1 with
  | true => next (pc + d) lv (.inr (.inr (kd, x, h.1 + 1)) :: r) (sN h)
  | false => none
def xNewA (kd d pc : Nat) (lv : ML) (st : List MV) (h : MH) : Option RT := match st with
  | .inl n :: r => (match decide (n < 0) with
    | true => none
    | false => xNew C next kd (iN n) d pc lv r h)
  | _ => none
/-- a call: its number, how many arguments, what it answers (0 int, 1 long, 2 reference of a kind, 3 nothing) -/
def xCall (aux : List Nat) (pc : Nat) (lv : ML) (st : List MV) (h : MH) : Option RT := match aux with
  | [_, j, n, 0] => (match Nat.ble n st.length && Nat.ble (wd (st.drop n)) 8 && no7 (st.take n) with
    | true => (C.2.2.2.2.1 j (st.take n).reverse h).bind (fun x => next (pc + 3) lv (.inl x.1 :: st.drop n) x.2)
    | false => none)
  | [_, j, n, 1] => (match Nat.ble n st.length && Nat.ble (wd (st.drop n)) 8 && no7 (st.take n) with
    | true => (C.2.2.2.2.2.1 j (st.take n).reverse h).bind (fun x => next (pc + 3) lv (.inr (.inl x.1) :: st.drop n) x.2)
    | false => none)
  | [_, j, n, 2, kt, xt] => (match Nat.ble n st.length && Nat.ble (wd (st.drop n)) 8 && no7 (st.take n) with
    | true => (C.2.2.2.2.2.2.1 j (st.take n).reverse h).bind (fun x => next (pc + 3) lv (.inr (.inr (kt, xt, x.1)) :: st.drop n) x.2)
    | false => none)
  | [_, j, n, 3] => (match Nat.ble n st.length && Nat.ble (wd (st.drop n)) 8 && no7 (st.take n) with
    | true => (C.2.2.2.2.2.2.2 j (st.take n).reverse h).bind (fun x => next (pc + 3) lv (st.drop n) x)
    | false => none)
  | _ => none
/-- Object's constructor; System.arraycopy of numbers -/
def xObj (pc : Nat) (lv : ML) (st : List MV) (h : MH) : Option RT := match st with
  | .inr (.inr (_, _, _)) :: r => (match Nat.ble (wd r) 8 with
    | true => next (pc + 3) lv r h
    | false => none)
  | _ => none
def xCopy (pc : Nat) (lv : ML) (st : List MV) (h : MH) : Option RT := match st with
  | .inl n :: .inl dp :: .inr (.inr (k1, n1, c1)) :: .inl sp :: .inr (.inr (k0, n0, c0)) :: r => (match Nat.ble (wd r) 8 && Nat.beq k0 k1, k0 with
    | true, 1 => if 0 ≤ n ∧ 0 ≤ sp ∧ 0 ≤ dp ∧ iN sp + iN n ≤ n0 ∧ iN dp + iN n ≤ n1 then next (pc + 3) lv r (cI h c0 c1 (iN sp) (iN dp) (iN n)) else none
    | true, 2 => if 0 ≤ n ∧ 0 ≤ sp ∧ 0 ≤ dp ∧ iN sp + iN n ≤ n0 ∧ iN dp + iN n ≤ n1 then next (pc + 3) lv r (cJ h c0 c1 (iN sp) (iN dp) (iN n)) else none
    | _, _ => none)
  | _ => none
def xRetI (st : List MV) (h : MH) : Option RT := match st with
  | [.inl x] => (match narOK rz x with
    | true => ret (some (.inl x)) h
    | false => none)
  | _ => none
def xDup2 (pc : Nat) (lv : ML) (st : List MV) (h : MH) : Option RT := match st with
  | .inr (.inl x) :: r => next (pc + 1) lv (.inr (.inl x) :: .inr (.inl x) :: r) h
  | u :: v :: r => (match is2 u || is2 v with
    | false => next (pc + 1) lv (u :: v :: u :: v :: r) h
    | true => none)
  | _ => none
def xDup (pc : Nat) (lv : ML) (st : List MV) (h : MH) : Option RT := match st with
  | u :: r => (match is2 u with
    | false => next (pc + 1) lv (u :: u :: r) h
    | true => none)
  | _ => none
def xPop (pc : Nat) (lv : ML) (st : List MV) (h : MH) : Option RT := match st with
  | u :: r => (match is2 u with
    | false => next (pc + 1) lv r h
    | true => none)
  | _ => none
def xLcmp (pc : Nat) (lv : ML) (st : List MV) (h : MH) : Option RT := match st with
  | .inr (.inl y) :: .inr (.inl x) :: r => next (pc + 1) lv (.inl (lg_cmp x y) :: r) h
  | _ => none
def xI2l (pc : Nat) (lv : ML) (st : List MV) (h : MH) : Option RT := match st with
  | .inl x :: r => next (pc + 1) lv (.inr (.inl x.toInt64) :: r) h
  | _ => none
def xL2i (pc : Nat) (lv : ML) (st : List MV) (h : MH) : Option RT := match st with
  | .inr (.inl x) :: r => next (pc + 1) lv (.inl x.toInt32 :: r) h
  | _ => none
def xLneg (pc : Nat) (lv : ML) (st : List MV) (h : MH) : Option RT := match st with
  | .inr (.inl x) :: r => next (pc + 1) lv (.inr (.inl (-x)) :: r) h
  | _ => none
def xTab (aux : List Nat) (lv : ML) (st : List MV) (h : MH) : Option RT := match st, aux with
  | .inl x :: r, d :: ts => xSw next x lv r h d ts 0
  | _, _ => none
def stp (w : RW) (pc : Nat) (lv : ML) (st : List MV) (h : MH) : Option RT := match w.1 with
  | .iconst _ => next (pc + 1) lv (.inl w.2.2.2.1 :: st) h
  | .bipush _ => next (pc + 2) lv (.inl w.2.2.2.1 :: st) h
  | .sipush _ => next (pc + 3) lv (.inl w.2.2.2.1 :: st) h
  | .ldc _ => (match w.2.2.1 with
    | [i] => next (pc + 2) lv (.inr (.inr (8, i, 0)) :: st) h
    | _ => next (pc + 2) lv (.inl w.2.2.2.1 :: st) h)
  | .ldc_w _ => next (pc + 3) lv (.inl w.2.2.2.1 :: st) h
  | .getstatic _ => next (pc + 3) lv (.inl w.2.2.2.1 :: st) h
  | .lconst _ => next (pc + 1) lv (.inr (.inl w.2.2.2.2) :: st) h
  | .ldc2_w _ => next (pc + 3) lv (.inr (.inl w.2.2.2.2) :: st) h
  | .iload _ => xLoad next 0 (w.2.2.1.getD 0 0) (pc + 2) lv st h
  | .iload_n _ => xLoad next 0 (w.2.2.1.getD 0 0) (pc + 1) lv st h
  | .lload _ => xLoad next 1 (w.2.2.1.getD 0 0) (pc + 2) lv st h
  | .lload_n _ => xLoad next 1 (w.2.2.1.getD 0 0) (pc + 1) lv st h
  | .aload _ => xLoad next 2 (w.2.2.1.getD 0 0) (pc + 2) lv st h
  | .aload_n _ => xLoad next 2 (w.2.2.1.getD 0 0) (pc + 1) lv st h
  | .istore _ => xStore nL next 0 (w.2.2.1.getD 0 0) (pc + 2) lv st h
  | .istore_n _ => xStore nL next 0 (w.2.2.1.getD 0 0) (pc + 1) lv st h
  | .lstore _ => xStore nL next 1 (w.2.2.1.getD 0 0) (pc + 2) lv st h
  | .lstore_n _ => xStore nL next 1 (w.2.2.1.getD 0 0) (pc + 1) lv st h
  | .astore _ => xStore nL next 2 (w.2.2.1.getD 0 0) (pc + 2) lv st h
  | .astore_n _ => xStore nL next 2 (w.2.2.1.getD 0 0) (pc + 1) lv st h
  | .iinc _ _ => xIinc nL next (w.2.2.1.getD 0 0) (pc + 3) w.2.2.2.1 lv st h
  | .iadd => xI2 next (fun x y => x + y) pc lv st h
  | .isub => xI2 next (fun x y => x - y) pc lv st h
  | .imul => xI2 next (fun x y => x * y) pc lv st h
  | .iand => xI2 next (fun x y => x &&& y) pc lv st h
  | .ior => xI2 next (fun x y => x ||| y) pc lv st h
  | .ixor => xI2 next (fun x y => x ^^^ y) pc lv st h
  | .ishl => xI2 next (fun x y => x <<< (y &&& 31)) pc lv st h
  | .ishr => xI2 next (fun x y => x >>> (y &&& 31)) pc lv st h
  | .iushr => xI2 next (fun x y => (x.toUInt32 >>> (y.toUInt32 &&& Int32.toUInt32 31)).toInt32) pc lv st h
  | .idiv => xI2d next (fun x y => x / y) pc lv st h
  | .irem => xI2d next (fun x y => x - x / y * y) pc lv st h
  | .ineg => xI1 next (fun x => -x) pc lv st h
  | .i2b => xI1 next (fun x => x.toInt8.toInt32) pc lv st h
  | .i2s => xI1 next (fun x => x.toInt16.toInt32) pc lv st h
  | .i2c => xI1 next (fun x => (x.toUInt32 % 65536).toInt32) pc lv st h
  | .i2l => xI2l next pc lv st h
  | .l2i => xL2i next pc lv st h
  | .ladd => xJ2 next (fun x y => x + y) pc lv st h
  | .lsub => xJ2 next (fun x y => x - y) pc lv st h
  | .lmul => xJ2 next (fun x y => x * y) pc lv st h
  | .land => xJ2 next (fun x y => x &&& y) pc lv st h
  | .lor => xJ2 next (fun x y => x ||| y) pc lv st h
  | .ldiv => xJ2d next (fun x y => x / y) pc lv st h
  | .lrem => xJ2d next (fun x y => x - x / y * y) pc lv st h
  | .lneg => xLneg next pc lv st h
  | .lshl => xJs next (fun x y => x <<< (y.toInt64 &&& 63)) pc lv st h
  | .lshr => xJs next (fun x y => x >>> (y.toInt64 &&& 63)) pc lv st h
  | .lushr => xJs next (fun x y => (x.toUInt64 >>> (y.toInt64.toUInt64 &&& Int64.toUInt64 63)).toInt64) pc lv st h
  | .lcmp => xLcmp next pc lv st h
  | .if_icmp cd _ => xIc next cd (w.2.2.1.getD 0 0) pc lv st h
  | .ifCond cd _ => xIf next cd (w.2.2.1.getD 0 0) pc lv st h
  | .goto _ => next (w.2.2.1.getD 0 0) lv st h
  | .tableswitch _ _ _ _ => xTab next w.2.2.1 lv st h
  | .dup => xDup next pc lv st h
  | .dup2 => xDup2 next pc lv st h
  | .pop => xPop next pc lv st h
  | .iaload => xAld C next 1 pc lv st h
  | .laload => xAld C next 2 pc lv st h
  | .baload => xAld C next 3 pc lv st h
  | .aaload => xAld C next 5 pc lv st h
  | .iastore => xAst next 1 pc lv st h
  | .lastore => xAst next 2 pc lv st h
  | .bastore => xAst next 3 pc lv st h
  | .aastore => xAst next 5 pc lv st h
  | .arraylength => xLen C next pc lv st h
  | .getfield _ => xGet C next w.2.2.1 pc lv st h
  | .putfield _ => xPut C next w.2.2.1 pc lv st h
  | .new _ => (match w.2.2.1 with
    | [ci] => xNew C next 0 ci 3 pc lv st h
    | _ => none)
  | .newarray _ => (match w.2.2.1 with
    | [kd] => xNewA C next kd 2 pc lv st h
    | _ => none)
  | .anewarray _ => xNewA C next 5 3 pc lv st h
  | .invokevirtual _ => xCall C next w.2.2.1 pc lv st h
  | .invokestatic _ => (match w.2.2.1 with
    | [9] => xCopy next pc lv st h
    | _ => xCall C next w.2.2.1 pc lv st h)
  | .invokespecial _ => (match w.2.2.1 with
    | [8] => xObj next pc lv st h
    | _ => xCall C next w.2.2.1 pc lv st h)
  | .ireturn => xRetI rz ret st h
  | .lreturn => (match st with
    | [.inr (.inl x)] => ret (some (.inr (.inl x))) h
    | _ => none)
  | .areturn => (match st with
    | [.inr (.inr x)] => ret (some (.inr (.inr x))) h
    | _ => none)
  | .return_ => (match st with
    | [] => ret none h
    | _ => none)
  | _ => none
/-- the row of a table of rows, by pc: in chunks of 32 -/
def rowAt (tab : List (List (Option RW))) (pc : Nat) : Option RW := ((tab[pc / 32]?).getD [])[pc % 32]?.getD none
/-- from pc on, up to the next cut or the end -/
def seg (tab : List (List (Option RW))) (cut : List Nat) (cont : Nat → ML → List MV → MH → Option RT) : Nat → Bool → Nat → ML → List MV → MH → Option RT
  | 0, _, _, _, _, _ => none
  | k + 1, first, pc, lv, st, h => (match first || !(cut.any (Nat.beq pc)) with
    | false => cont pc lv st h
    | true => (match rowAt tab pc with
      | some w => stp C nL rz ret (fun pc lv st h => seg tab cut cont k false pc lv st h) w pc lv st h
      | none => none))
end MMstep
def rI : Option MV → MH → Option (Int32 × MH)
  | some (.inl x), h => some (x, h)
  | _, _ => none
def rJ : Option MV → MH → Option (Int64 × MH)
  | some (.inr (.inl x)), h => some (x, h)
  | _, _ => none
def rR : Option MV → MH → Option (Nat × MH)
  | some (.inr (.inr (0, 2, x))), h => some (x, h)
  | _, _ => none
def rV : Option MV → MH → Option MH
  | none, h => some h
  | _, _ => none
