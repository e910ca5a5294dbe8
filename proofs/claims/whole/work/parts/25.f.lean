def T_M_without : List (List (Option RW)) := [
  [some (.iload_n 1, 1, [1], 0, 0), some (.iload_n 2, 1, [2], 0, 0), some (.invokestatic 451, 3, [2, 234, 2, 0], 0, 0), none, none, some (.ifCond .eq 11, 3, [16], 0, 0), none, none, some (.aload_n 0, 1, [0], 0, 0), some (.iload_n 3, 1, [3], 0, 0), some (.invokevirtual 366, 3, [0, 205, 2, 0], 0, 0), none, none, some (.ifCond .ne 9, 3, [22], 0, 0), none, none, some (.aload_n 0, 1, [0], 0, 0), some (.iconst 1, 1, [], 1, 0), some (.invokevirtual 342, 3, [0, 168, 2, 0], 0, 0), none, none, some (.ireturn, 1, [], 0, 0), some (.aload_n 0, 1, [0], 0, 0), some (.getfield 348, 3, [12, 32, 0], 0, 0), none, none, some (.ifCond .ne 10, 3, [36], 0, 0), none, none, some (.aload_n 0, 1, [0], 0, 0), some (.bipush 6, 2, [], 6, 0), none],
  [some (.invokevirtual 342, 3, [0, 168, 2, 0], 0, 0), none, none, some (.ireturn, 1, [], 0, 0), some (.aload_n 0, 1, [0], 0, 0), some (.iload_n 1, 1, [1], 0, 0), some (.iload_n 2, 1, [2], 0, 0), some (.invokevirtual 454, 3, [0, 227, 3, 3], 0, 0), none, none, some (.aload_n 0, 1, [0], 0, 0), some (.invokevirtual 465, 3, [0, 240, 1, 3], 0, 0), none, none, some (.aload_n 0, 1, [0], 0, 0), some (.aload_n 0, 1, [0], 0, 0), some (.getfield 141, 3, [12, 71, 2, 4, 256, 38], 0, 0), none, none, some (.aload_n 0, 1, [0], 0, 0), some (.getfield 427, 3, [12, 67, 0], 0, 0), none, none, some (.iconst 1, 1, [], 1, 0), some (.iload_n 3, 1, [3], 0, 0), some (.ishl, 1, [], 0, 0), some (.iconst (-1), 1, [], (-1), 0), some (.ixor, 1, [], 0, 0), some (.iand, 1, [], 0, 0), some (.baload, 1, [], 0, 0), some (.ifCond .eq 7, 3, [69], 0, 0), none],
  [none, some (.iconst 1, 1, [], 1, 0), some (.goto 4, 3, [70], 0, 0), none, none, some (.iconst 0, 1, [], 0, 0), some (.invokevirtual 180, 3, [0, 169, 2, 0], 0, 0), none, none, some (.ireturn, 1, [], 0, 0)]]
def f_M_without (N : Nat) (a1 : Int32) (a2 : Int32) (a3 : Int32) (h : MH) : Option (Int32 × MH) :=
  (f_M_areYears N a1 a2 h).bind (fun x1 =>
  if x1.1 = 0 then
  ((f_M_refuse N 1 x1.2).bind (fun x2 =>
  some (x2.1, x2.2)))
  else
  ((f_M_isMark N a3 x1.2).bind (fun x3 =>
  if x3.1 = 0 then
  ((f_M_refuse N 1 x3.2).bind (fun x4 =>
  some (x4.1, x4.2)))
  else
  (if (gI x3.2 68 32) = 0 then
  ((f_M_refuse N 6 x3.2).bind (fun x5 =>
  some (x5.1, x5.2)))
  else
  ((f_M_see N a1 a2 x3.2).bind (fun x6 =>
  (f_M_findSets N x6).bind (fun x7 =>
  if inB ((gI x7 68 67) &&& (((1 : Int32) <<< (a3 &&& 31)) ^^^ ((-1)))) 256 = true then
  (if (gI x7 106 (iN ((gI x7 68 67) &&& (((1 : Int32) <<< (a3 &&& 31)) ^^^ ((-1)))))) = 0 then
  ((f_M_gives N 0 x7).bind (fun x8 =>
  some (x8.1, x8.2)))
  else
  ((f_M_gives N 1 x7).bind (fun x9 =>
  some (x9.1, x9.2))))
  else none)))))))
def C_M_without (N : Nat) : MC := (KDL, false, (fun _ => 0), jsB, (fun j => match Nat.beq j 168 with
    | true => w_M_refuse (f_M_refuse N)
    | false => match Nat.beq j 169 with
    | true => w_M_gives (f_M_gives N)
    | false => match Nat.beq j 205 with
    | true => w_M_isMark (f_M_isMark N)
    | false => match Nat.beq j 234 with
    | true => w_M_areYears (f_M_areYears N)
    | false => fun _ _ => none), (fun _ _ _ => none), (fun _ _ _ => none), (fun j => match Nat.beq j 227 with
    | true => w_M_see (f_M_see N)
    | false => match Nat.beq j 240 with
    | true => w_M_findSets (f_M_findSets N)
    | false => fun _ _ => none))
def D_M_without (N : Nat) (n pc : Nat) (lv : ML) (st : List MV) (h : MH) : Option (Int32 × MH) :=
  match Nat.beq pc 0 with
  | true => (match lk lv 0, lk lv 1, lk lv 2, lk lv 3, st with
    | some (.inr (.inr (0, 12, 68))), some (.inl a1), some (.inl a2), some (.inl a3), [] => f_M_without N a1 a2 a3 h
    | _, _, _, _, _ => none)
  | false => none
set_option maxRecDepth 1000000 in
theorem E_M_without_0 (N : Nat) (n : Nat) (a1 : Int32) (a2 : Int32) (a3 : Int32) (h : MH) : seg (C_M_without N) 4 0 rI T_M_without [0] (fun q lv st h => match Nat.ble 1 q with
    | true => D_M_without N n q lv st h
    | false => none) 400 true 0 [(0, .inr (.inr (0, 12, 68))), (1, .inl a1), (2, .inl a2), (3, .inl a3)] [] h = f_M_without N a1 a2 a3 h := (rfl)
set_option maxRecDepth 1000000 in
theorem chk_M_without : chkT 12 false prog_14_method_81_code T_M_without = true := by decide +kernel
theorem mc_M_without : mC 243 = prog_14_method_81_code := by rfl
theorem mx_M_without : mL 243 = 4 ∧ mR 243 = some .int ∧ mK 243 = 1 ∧ (mN 243).cls = cN 12 := by decide +kernel
theorem hD_M_without (N : Nat) {r : Int32 × MH} : ∀ n pc lv st h, D_M_without N n pc lv st h = some r → ∃ lv', (∀ q ∈ lv', q ∈ lv) ∧ seg (C_M_without N) 4 0 rI T_M_without [0] (fun q lv st h => match Nat.ble (pc + 1) q with
    | true => D_M_without N n q lv st h
    | false => none) 400 true pc lv' st h = some r := by
  intro n pc lv st h hf
  unfold D_M_without at hf
  split at hf
  · rename_i hb
    have hb := Nat.eq_of_beq_eq_true hb
    subst hb
    split at hf
    · rename_i y0 y1 y2 e0 e1 e2 e3
      exact ⟨_, (sub_cons e0 (sub_cons e1 (sub_cons e2 (sub_cons e3 sub_nil)))), (E_M_without_0 N n _ _ _ h).trans hf⟩
    · cases hf
  · skip
    cases hf
theorem hM_M_without (N : Nat) {r : Int32 × MH} : ∀ n pc lv st h, D_M_without N n pc lv st h = some r → pc < 74 := by
  intro n pc lv st h hf
  unfold D_M_without at hf
  split at hf
  · rename_i hb
    rw [Nat.eq_of_beq_eq_true hb]
    decide
  · skip
    cases hf
theorem s_M_without {l : Launch} {E : EV} {N : Nat} {as : List MV} {h : MH} {r : Int32 × MH} (hf : w_M_without (f_M_without N) as h = some r) : SndM l E false 3 243 as h (some (.inl r.1)) r.2 := by
  unfold w_M_without at hf
  split at hf
  · obtain ⟨m1, m2, m3, m4⟩ := mx_M_without
    refine snd_of (C := C_M_without N) (own := 12) (rz := 0) (lim := 115) rI_eq m2 m4 pl_243 (TB_in _ cw_243 rfl) ⟨(fun _ => ⟨_, _, _, _, _, _, rfl, rfl, by rw [m4]; rfl⟩), (fun z => by rw [m3] at z; cases z)⟩ (fun z => by cases z) KDL_take rfl rfl (fun z => by cases z) (fun z => by cases z) (fun _ => rfl) (by rw [m1]; exact Nat.le_of_ble_eq_true rfl)
      (fun j as h x z => by
      dsimp only [C_M_without] at z
      cases hb : Nat.beq j 168 with
      | true =>
        have hb := Nat.eq_of_beq_eq_true hb
        subst hb
        exact ⟨0, by decide, (fun z => by cases z), s_M_refuse z⟩
      | false =>
        rw [hb] at z
        dsimp only at z
        cases hb : Nat.beq j 169 with
        | true =>
          have hb := Nat.eq_of_beq_eq_true hb
          subst hb
          exact ⟨0, by decide, (fun z => by cases z), s_M_gives z⟩
        | false =>
          rw [hb] at z
          dsimp only at z
          cases hb : Nat.beq j 205 with
          | true =>
            have hb := Nat.eq_of_beq_eq_true hb
            subst hb
            exact ⟨0, by decide, (fun z => by cases z), s_M_isMark z⟩
          | false =>
            rw [hb] at z
            dsimp only at z
            cases hb : Nat.beq j 234 with
            | true =>
              have hb := Nat.eq_of_beq_eq_true hb
              subst hb
              exact ⟨1, by decide, (fun z => by cases z), s_M_areYears z⟩
            | false =>
              rw [hb] at z
              dsimp only at z
              cases z)
      (fun _ _ _ _ z => by cases z)
      (fun _ _ _ _ z => by cases z)
      (fun j as h x z => by
      dsimp only [C_M_without] at z
      cases hb : Nat.beq j 227 with
      | true =>
        have hb := Nat.eq_of_beq_eq_true hb
        subst hb
        exact ⟨1, by decide, (fun z => by cases z), s_M_see z⟩
      | false =>
        rw [hb] at z
        dsimp only at z
        cases hb : Nat.beq j 240 with
        | true =>
          have hb := Nat.eq_of_beq_eq_true hb
          subst hb
          exact ⟨2, by decide, (fun z => by cases z), s_M_findSets z⟩
        | false =>
          rw [hb] at z
          dsimp only at z
          cases z)
      (fun p e R s m args below meth c Q n0 F hret => ?_)
    rw [m1] at F hret ⊢
    rw [mc_M_without] at F hret
    exact cuts_s (K := 400) (M := 74) (D := D_M_without N) (B := fun _ _ _ _ _ => none) F hret (chkT_ok chk_M_without) (hM_M_without N) (fun _ _ _ _ _ z => by cases z) (hD_M_without N) N 0 _ _ _ hf
  · cases hf
def T_M_odds : List (List (Option RW)) := [
  [some (.iload_n 1, 1, [1], 0, 0), some (.iload_n 2, 1, [2], 0, 0), some (.invokestatic 451, 3, [2, 234, 2, 0], 0, 0), none, none, some (.ifCond .eq 23, 3, [28], 0, 0), none, none, some (.aload_n 0, 1, [0], 0, 0), some (.iload_n 3, 1, [3], 0, 0), some (.invokevirtual 462, 3, [0, 235, 2, 0], 0, 0), none, none, some (.ifCond .eq 15, 3, [28], 0, 0), none, none, some (.iload 4, 2, [4], 0, 0), none, some (.ifCond .lt 10, 3, [28], 0, 0), none, none, some (.iload 4, 2, [4], 0, 0), none, some (.bipush 54, 2, [], 54, 0), none, some (.if_icmp .le 9, 3, [34], 0, 0), none, none, some (.aload_n 0, 1, [0], 0, 0), some (.iconst 1, 1, [], 1, 0), some (.invokevirtual 342, 3, [0, 168, 2, 0], 0, 0), none],
  [none, some (.ireturn, 1, [], 0, 0), some (.aload_n 0, 1, [0], 0, 0), some (.iload_n 1, 1, [1], 0, 0), some (.iload_n 2, 1, [2], 0, 0), some (.invokevirtual 454, 3, [0, 227, 3, 3], 0, 0), none, none, some (.aload_n 0, 1, [0], 0, 0), some (.aload_n 0, 1, [0], 0, 0), some (.getfield 427, 3, [12, 67, 0], 0, 0), none, none, some (.iload_n 3, 1, [3], 0, 0), some (.invokevirtual 458, 3, [0, 233, 3, 1], 0, 0), none, none, some (.lstore 5, 2, [5], 0, 0), none, some (.lload 5, 2, [5], 0, 0), none, some (.lconst 0, 1, [], 0, 0), some (.lcmp, 1, [], 0, 0), some (.ifCond .ne 10, 3, [65], 0, 0), none, none, some (.aload_n 0, 1, [0], 0, 0), some (.bipush 6, 2, [], 6, 0), none, some (.invokevirtual 342, 3, [0, 168, 2, 0], 0, 0), none, none],
  [some (.ireturn, 1, [], 0, 0), some (.lconst 0, 1, [], 0, 0), some (.lstore 7, 2, [7], 0, 0), none, some (.iload 4, 2, [4], 0, 0), none, some (.istore 9, 2, [9], 0, 0), none, some (.iload 9, 2, [9], 0, 0), none, some (.bipush 55, 2, [], 55, 0), none, some (.if_icmp .ge 21, 3, [97], 0, 0), none, none, some (.lload 7, 2, [7], 0, 0), none, some (.aload_n 0, 1, [0], 0, 0), some (.getfield 144, 3, [12, 72, 2, 2, 55, 39], 0, 0), none, none, some (.iload 9, 2, [9], 0, 0), none, some (.laload, 1, [], 0, 0), some (.ladd, 1, [], 0, 0), some (.lstore 7, 2, [7], 0, 0), none, some (.iinc 9 1, 3, [9], 1, 0), none, none, some (.goto (-22), 3, [72], 0, 0), none],
  [none, some (.aload_n 0, 1, [0], 0, 0), some (.lload 7, 2, [7], 0, 0), none, some (.lload 5, 2, [5], 0, 0), none, some (.invokevirtual 417, 3, [0, 170, 3, 0], 0, 0), none, none, some (.ireturn, 1, [], 0, 0)]]
def F_M_odds_72 (N : Nat) (bk : (Int64 → Int64 → Int32 → MH → Option (Int32 × MH))) (a5 : Int64) (a7 : Int64) (a9 : Int32) (h : MH) : Option (Int32 × MH) :=
  if 55 ≤ a9 then
  ((f_M_fraction N a7 a5 h).bind (fun x10 =>
  some (x10.1, x10.2)))
  else
  (if inB a9 55 = true then
  (let v11 : Int64 := a7 + (gJ h 107 (iN a9))
  let v12 : Int32 := a9 + 1
  bk a5 v11 v12 h)
  else none)
def F_M_odds_0 (N : Nat) (bk : (Int64 → Int64 → Int32 → MH → Option (Int32 × MH))) (a1 : Int32) (a2 : Int32) (a3 : Int32) (a4 : Int32) (h : MH) : Option (Int32 × MH) :=
  (f_M_areYears N a1 a2 h).bind (fun x1 =>
  if x1.1 = 0 then
  ((f_M_refuse N 1 x1.2).bind (fun x2 =>
  some (x2.1, x2.2)))
  else
  ((f_M_areCells N a3 x1.2).bind (fun x3 =>
  if x3.1 = 0 then
  ((f_M_refuse N 1 x3.2).bind (fun x4 =>
  some (x4.1, x4.2)))
  else
  (if a4 < 0 then
  ((f_M_refuse N 1 x3.2).bind (fun x5 =>
  some (x5.1, x5.2)))
  else
  (if a4 ≤ 54 then
  ((f_M_see N a1 a2 x3.2).bind (fun x6 =>
  (f_M_count N (gI x6 68 67) a3 x6).bind (fun x7 =>
  if (lg_cmp x7.1 0) = 0 then
  ((f_M_refuse N 6 x7.2).bind (fun x8 =>
  some (x8.1, x8.2)))
  else
  (F_M_odds_72 N bk x7.1 0 a4 x7.2))))
  else
  ((f_M_refuse N 1 x3.2).bind (fun x9 =>
  some (x9.1, x9.2))))))))
def L_M_odds (N : Nat) : Nat → (Int64 → Int64 → Int32 → MH → Option (Int32 × MH))
  | 0 => fun _ _ _ _ => none
  | n + 1 => F_M_odds_72 N (L_M_odds N n)
def f_M_odds (N : Nat) (a1 : Int32) (a2 : Int32) (a3 : Int32) (a4 : Int32) (h : MH) : Option (Int32 × MH) := F_M_odds_0 N (L_M_odds N N) a1 a2 a3 a4 h
def C_M_odds (N : Nat) : MC := (KDL, false, (fun _ => 0), jsB, (fun j => match Nat.beq j 168 with
    | true => w_M_refuse (f_M_refuse N)
    | false => match Nat.beq j 170 with
    | true => w_M_fraction (f_M_fraction N)
    | false => match Nat.beq j 234 with
    | true => w_M_areYears (f_M_areYears N)
    | false => match Nat.beq j 235 with
    | true => w_M_areCells (f_M_areCells N)
    | false => fun _ _ => none), (fun j => match Nat.beq j 233 with
    | true => w_M_count (f_M_count N)
    | false => fun _ _ => none), (fun _ _ _ => none), (fun j => match Nat.beq j 227 with
    | true => w_M_see (f_M_see N)
    | false => fun _ _ => none))
def D_M_odds (N : Nat) (n pc : Nat) (lv : ML) (st : List MV) (h : MH) : Option (Int32 × MH) :=
  match Nat.beq pc 0 with
  | true => (match lk lv 0, lk lv 1, lk lv 2, lk lv 3, lk lv 4, st with
    | some (.inr (.inr (0, 12, 68))), some (.inl a1), some (.inl a2), some (.inl a3), some (.inl a4), [] => F_M_odds_0 N (L_M_odds N n) a1 a2 a3 a4 h
    | _, _, _, _, _, _ => none)
  | false => match Nat.beq pc 72 with
  | true => (match lk lv 0, lk lv 5, lk lv 7, lk lv 9, st with
    | some (.inr (.inr (0, 12, 68))), some (.inr (.inl a5)), some (.inr (.inl a7)), some (.inl a9), [] => F_M_odds_72 N (L_M_odds N n) a5 a7 a9 h
    | _, _, _, _, _ => none)
  | false => none
def B_M_odds (N : Nat) (n pc : Nat) (lv : ML) (st : List MV) (h : MH) : Option (Int32 × MH) :=
  match Nat.beq pc 72 with
  | true => (match lk lv 0, lk lv 5, lk lv 7, lk lv 9, st with
    | some (.inr (.inr (0, 12, 68))), some (.inr (.inl a5)), some (.inr (.inl a7)), some (.inl a9), [] => ((L_M_odds N n)) a5 a7 a9 h
    | _, _, _, _, _ => none)
  | false => none
set_option maxRecDepth 1000000 in
theorem E_M_odds_0 (N : Nat) (n : Nat) (a1 : Int32) (a2 : Int32) (a3 : Int32) (a4 : Int32) (h : MH) : seg (C_M_odds N) 10 0 rI T_M_odds [0, 72] (fun q lv st h => match Nat.ble 1 q with
    | true => D_M_odds N n q lv st h
    | false => B_M_odds N n q lv st h) 400 true 0 [(0, .inr (.inr (0, 12, 68))), (1, .inl a1), (2, .inl a2), (3, .inl a3), (4, .inl a4)] [] h = F_M_odds_0 N (L_M_odds N n) a1 a2 a3 a4 h := (rfl)
set_option maxRecDepth 1000000 in
theorem E_M_odds_72 (N : Nat) (n : Nat) (a5 : Int64) (a7 : Int64) (a9 : Int32) (h : MH) : seg (C_M_odds N) 10 0 rI T_M_odds [0, 72] (fun q lv st h => match Nat.ble 73 q with
    | true => D_M_odds N n q lv st h
    | false => B_M_odds N n q lv st h) 400 true 72 [(0, .inr (.inr (0, 12, 68))), (5, .inr (.inl a5)), (7, .inr (.inl a7)), (9, .inl a9)] [] h = F_M_odds_72 N (L_M_odds N n) a5 a7 a9 h := (rfl)
set_option maxRecDepth 1000000 in
theorem chk_M_odds : chkT 12 false prog_14_method_82_code T_M_odds = true := by decide +kernel
theorem mc_M_odds : mC 244 = prog_14_method_82_code := by rfl
theorem mx_M_odds : mL 244 = 10 ∧ mR 244 = some .int ∧ mK 244 = 1 ∧ (mN 244).cls = cN 12 := by decide +kernel
theorem hD_M_odds (N : Nat) {r : Int32 × MH} : ∀ n pc lv st h, D_M_odds N n pc lv st h = some r → ∃ lv', (∀ q ∈ lv', q ∈ lv) ∧ seg (C_M_odds N) 10 0 rI T_M_odds [0, 72] (fun q lv st h => match Nat.ble (pc + 1) q with
    | true => D_M_odds N n q lv st h
    | false => B_M_odds N n q lv st h) 400 true pc lv' st h = some r := by
  intro n pc lv st h hf
  unfold D_M_odds at hf
  split at hf
  · rename_i hb
    have hb := Nat.eq_of_beq_eq_true hb
    subst hb
    split at hf
    · rename_i y0 y1 y2 y3 e0 e1 e2 e3 e4
      exact ⟨_, (sub_cons e0 (sub_cons e1 (sub_cons e2 (sub_cons e3 (sub_cons e4 sub_nil))))), (E_M_odds_0 N n _ _ _ _ h).trans hf⟩
    · cases hf
  · skip
    split at hf
    · rename_i hb
      have hb := Nat.eq_of_beq_eq_true hb
      subst hb
      split at hf
      · rename_i y0 y1 y2 e0 e1 e2 e3
        exact ⟨_, (sub_cons e0 (sub_cons e1 (sub_cons e2 (sub_cons e3 sub_nil)))), (E_M_odds_72 N n _ _ _ h).trans hf⟩
      · cases hf
    · skip
      cases hf
theorem hM_M_odds (N : Nat) {r : Int32 × MH} : ∀ n pc lv st h, D_M_odds N n pc lv st h = some r → pc < 106 := by
  intro n pc lv st h hf
  unfold D_M_odds at hf
  split at hf
  · rename_i hb
    rw [Nat.eq_of_beq_eq_true hb]
    decide
  · skip
    split at hf
    · rename_i hb
      rw [Nat.eq_of_beq_eq_true hb]
      decide
    · skip
      cases hf
theorem hB_M_odds (N : Nat) {r : Int32 × MH} : ∀ n pc lv st h, B_M_odds N n pc lv st h = some r → ∃ k, n = k + 1 ∧ D_M_odds N k pc lv st h = some r := by
  intro n pc lv st h hf
  unfold B_M_odds at hf
  split at hf
  · rename_i hb
    have hb := Nat.eq_of_beq_eq_true hb
    subst hb
    cases n with
    | zero =>
      split at hf
      · cases hf
      · cases hf
    | succ k =>
      refine ⟨k, rfl, ?_⟩
      exact hf
  · skip
    cases hf
theorem s_M_odds {l : Launch} {E : EV} {N : Nat} {as : List MV} {h : MH} {r : Int32 × MH} (hf : w_M_odds (f_M_odds N) as h = some r) : SndM l E false 3 244 as h (some (.inl r.1)) r.2 := by
  unfold w_M_odds at hf
  split at hf
  · obtain ⟨m1, m2, m3, m4⟩ := mx_M_odds
    refine snd_of (C := C_M_odds N) (own := 12) (rz := 0) (lim := 115) rI_eq m2 m4 pl_244 (TB_in _ cw_244 rfl) ⟨(fun _ => ⟨_, _, _, _, _, _, rfl, rfl, by rw [m4]; rfl⟩), (fun z => by rw [m3] at z; cases z)⟩ (fun z => by cases z) KDL_take rfl rfl (fun z => by cases z) (fun z => by cases z) (fun _ => rfl) (by rw [m1]; exact Nat.le_of_ble_eq_true rfl)
      (fun j as h x z => by
      dsimp only [C_M_odds] at z
      cases hb : Nat.beq j 168 with
      | true =>
        have hb := Nat.eq_of_beq_eq_true hb
        subst hb
        exact ⟨0, by decide, (fun z => by cases z), s_M_refuse z⟩
      | false =>
        rw [hb] at z
        dsimp only at z
        cases hb : Nat.beq j 170 with
        | true =>
          have hb := Nat.eq_of_beq_eq_true hb
          subst hb
          exact ⟨1, by decide, (fun z => by cases z), s_M_fraction z⟩
        | false =>
          rw [hb] at z
          dsimp only at z
          cases hb : Nat.beq j 234 with
          | true =>
            have hb := Nat.eq_of_beq_eq_true hb
            subst hb
            exact ⟨1, by decide, (fun z => by cases z), s_M_areYears z⟩
          | false =>
            rw [hb] at z
            dsimp only at z
            cases hb : Nat.beq j 235 with
            | true =>
              have hb := Nat.eq_of_beq_eq_true hb
              subst hb
              exact ⟨0, by decide, (fun z => by cases z), s_M_areCells z⟩
            | false =>
              rw [hb] at z
              dsimp only at z
              cases z)
      (fun j as h x z => by
      dsimp only [C_M_odds] at z
      cases hb : Nat.beq j 233 with
      | true =>
        have hb := Nat.eq_of_beq_eq_true hb
        subst hb
        exact ⟨2, by decide, (fun z => by cases z), s_M_count z⟩
      | false =>
        rw [hb] at z
        dsimp only at z
        cases z)
      (fun _ _ _ _ z => by cases z)
      (fun j as h x z => by
      dsimp only [C_M_odds] at z
      cases hb : Nat.beq j 227 with
      | true =>
        have hb := Nat.eq_of_beq_eq_true hb
        subst hb
        exact ⟨1, by decide, (fun z => by cases z), s_M_see z⟩
      | false =>
        rw [hb] at z
        dsimp only at z
        cases z)
      (fun p e R s m args below meth c Q n0 F hret => ?_)
    rw [m1] at F hret ⊢
    rw [mc_M_odds] at F hret
    exact cuts_s (K := 400) (M := 106) (D := D_M_odds N) (B := B_M_odds N) F hret (chkT_ok chk_M_odds) (hM_M_odds N) (hB_M_odds N) (hD_M_odds N) N 0 _ _ _ hf
  · cases hf
def T_M_rankOf : List (List (Option RW)) := [
  [some (.iconst 0, 1, [], 0, 0), some (.istore_n 3, 1, [3], 0, 0), some (.iload_n 3, 1, [3], 0, 0), some (.bipush 8, 2, [], 8, 0), none, some (.if_icmp .ge 90, 3, [95], 0, 0), none, none, some (.iconst 0, 1, [], 0, 0), some (.istore 4, 2, [4], 0, 0), none, some (.iload 4, 2, [4], 0, 0), none, some (.bipush 6, 2, [], 6, 0), none, some (.if_icmp .ge 74, 3, [89], 0, 0), none, none, some (.aload_n 0, 1, [0], 0, 0), some (.getfield 150, 3, [12, 74, 2, 2, 48, 41], 0, 0), none, none, some (.bipush 6, 2, [], 6, 0), none, some (.iload_n 3, 1, [3], 0, 0), some (.imul, 1, [], 0, 0), some (.iload 4, 2, [4], 0, 0), none, some (.iadd, 1, [], 0, 0), some (.iload_n 3, 1, [3], 0, 0), some (.aload_n 0, 1, [0], 0, 0), some (.getfield 351, 3, [12, 33, 0], 0, 0)],
  [none, none, some (.if_icmp .ge 47, 3, [81], 0, 0), none, none, some (.iload 4, 2, [4], 0, 0), none, some (.aload_n 0, 1, [0], 0, 0), some (.getfield 348, 3, [12, 32, 0], 0, 0), none, none, some (.if_icmp .ge 38, 3, [81], 0, 0), none, none, some (.iload_n 1, 1, [1], 0, 0), some (.iload_n 3, 1, [3], 0, 0), some (.ishr, 1, [], 0, 0), some (.iconst 1, 1, [], 1, 0), some (.iand, 1, [], 0, 0), some (.iconst 1, 1, [], 1, 0), some (.if_icmp .ne 29, 3, [81], 0, 0), none, none, some (.iload_n 2, 1, [2], 0, 0), some (.iload 4, 2, [4], 0, 0), none, some (.ishr, 1, [], 0, 0), some (.iconst 1, 1, [], 1, 0), some (.iand, 1, [], 0, 0), some (.iconst 1, 1, [], 1, 0), some (.if_icmp .ne 19, 3, [81], 0, 0), none],
  [none, some (.aload_n 0, 1, [0], 0, 0), some (.getfield 81, 3, [12, 37, 2, 1, 48, 20], 0, 0), none, none, some (.bipush 8, 2, [], 8, 0), none, some (.iload 4, 2, [4], 0, 0), none, some (.imul, 1, [], 0, 0), some (.iload_n 3, 1, [3], 0, 0), some (.iadd, 1, [], 0, 0), some (.iaload, 1, [], 0, 0), some (.i2l, 1, [], 0, 0), some (.goto 4, 3, [82], 0, 0), none, none, some (.lconst 0, 1, [], 0, 0), some (.lastore, 1, [], 0, 0), some (.iinc 4 1, 3, [4], 1, 0), none, none, some (.goto (-75), 3, [11], 0, 0), none, none, some (.iinc 3 1, 3, [3], 1, 0), none, none, some (.goto (-90), 3, [2], 0, 0), none, none, some (.iconst 0, 1, [], 0, 0)],
  [some (.istore_n 3, 1, [3], 0, 0), some (.lconst 1, 1, [], 0, 1), some (.lstore 4, 2, [4], 0, 0), none, some (.iconst 0, 1, [], 0, 0), some (.istore 6, 2, [6], 0, 0), none, some (.iload 6, 2, [6], 0, 0), none, some (.bipush 6, 2, [], 6, 0), none, some (.if_icmp .ge 247, 3, [354], 0, 0), none, none, some (.iconst (-1), 1, [], (-1), 0), some (.istore 7, 2, [7], 0, 0), none, some (.bipush 7, 2, [], 7, 0), none, some (.istore 8, 2, [8], 0, 0), none, some (.iload 8, 2, [8], 0, 0), none, some (.iload_n 3, 1, [3], 0, 0), some (.if_icmp .lt 31, 3, [151], 0, 0), none, none, some (.aload_n 0, 1, [0], 0, 0), some (.getfield 150, 3, [12, 74, 2, 2, 48, 41], 0, 0), none, none, some (.bipush 6, 2, [], 6, 0)],
  [none, some (.iload 8, 2, [8], 0, 0), none, some (.imul, 1, [], 0, 0), some (.iload 6, 2, [6], 0, 0), none, some (.iadd, 1, [], 0, 0), some (.laload, 1, [], 0, 0), some (.lconst 0, 1, [], 0, 0), some (.lcmp, 1, [], 0, 0), some (.ifCond .eq 7, 3, [145], 0, 0), none, none, some (.iload 8, 2, [8], 0, 0), none, some (.istore 7, 2, [7], 0, 0), none, some (.iinc 8 (-1), 3, [8], (-1), 0), none, none, some (.goto (-31), 3, [117], 0, 0), none, none, some (.iload 7, 2, [7], 0, 0), none, some (.iconst (-1), 1, [], (-1), 0), some (.if_icmp .ne 6, 3, [160], 0, 0), none, none, some (.goto 191, 3, [348], 0, 0), none, none],
  [some (.iconst 0, 1, [], 0, 0), some (.istore 8, 2, [8], 0, 0), none, some (.iload 8, 2, [8], 0, 0), none, some (.bipush 6, 2, [], 6, 0), none, some (.if_icmp .ge 63, 3, [230], 0, 0), none, none, some (.aload_n 0, 1, [0], 0, 0), some (.getfield 150, 3, [12, 74, 2, 2, 48, 41], 0, 0), none, none, some (.bipush 6, 2, [], 6, 0), none, some (.iload 7, 2, [7], 0, 0), none, some (.imul, 1, [], 0, 0), some (.iload 8, 2, [8], 0, 0), none, some (.iadd, 1, [], 0, 0), some (.laload, 1, [], 0, 0), some (.lstore 9, 2, [9], 0, 0), none, some (.aload_n 0, 1, [0], 0, 0), some (.getfield 150, 3, [12, 74, 2, 2, 48, 41], 0, 0), none, none, some (.bipush 6, 2, [], 6, 0), none, some (.iload 7, 2, [7], 0, 0)],
  [none, some (.imul, 1, [], 0, 0), some (.iload 8, 2, [8], 0, 0), none, some (.iadd, 1, [], 0, 0), some (.aload_n 0, 1, [0], 0, 0), some (.getfield 150, 3, [12, 74, 2, 2, 48, 41], 0, 0), none, none, some (.bipush 6, 2, [], 6, 0), none, some (.iload_n 3, 1, [3], 0, 0), some (.imul, 1, [], 0, 0), some (.iload 8, 2, [8], 0, 0), none, some (.iadd, 1, [], 0, 0), some (.laload, 1, [], 0, 0), some (.lastore, 1, [], 0, 0), some (.aload_n 0, 1, [0], 0, 0), some (.getfield 150, 3, [12, 74, 2, 2, 48, 41], 0, 0), none, none, some (.bipush 6, 2, [], 6, 0), none, some (.iload_n 3, 1, [3], 0, 0), some (.imul, 1, [], 0, 0), some (.iload 8, 2, [8], 0, 0), none, some (.iadd, 1, [], 0, 0), some (.lload 9, 2, [9], 0, 0), none, some (.lastore, 1, [], 0, 0)],
  [some (.iinc 8 1, 3, [8], 1, 0), none, none, some (.goto (-64), 3, [163], 0, 0), none, none, some (.aload_n 0, 1, [0], 0, 0), some (.getfield 150, 3, [12, 74, 2, 2, 48, 41], 0, 0), none, none, some (.bipush 6, 2, [], 6, 0), none, some (.iload_n 3, 1, [3], 0, 0), some (.imul, 1, [], 0, 0), some (.iload 6, 2, [6], 0, 0), none, some (.iadd, 1, [], 0, 0), some (.laload, 1, [], 0, 0), some (.lstore 8, 2, [8], 0, 0), none, some (.iload_n 3, 1, [3], 0, 0), some (.iconst 1, 1, [], 1, 0), some (.iadd, 1, [], 0, 0), some (.istore 10, 2, [10], 0, 0), none, some (.iload 10, 2, [10], 0, 0), none, some (.bipush 8, 2, [], 8, 0), none, some (.if_icmp .ge 88, 3, [341], 0, 0), none, none],
  [some (.aload_n 0, 1, [0], 0, 0), some (.getfield 150, 3, [12, 74, 2, 2, 48, 41], 0, 0), none, none, some (.bipush 6, 2, [], 6, 0), none, some (.iload 10, 2, [10], 0, 0), none, some (.imul, 1, [], 0, 0), some (.iload 6, 2, [6], 0, 0), none, some (.iadd, 1, [], 0, 0), some (.laload, 1, [], 0, 0), some (.lstore 11, 2, [11], 0, 0), none, some (.iconst 0, 1, [], 0, 0), some (.istore 13, 2, [13], 0, 0), none, some (.iload 13, 2, [13], 0, 0), none, some (.bipush 6, 2, [], 6, 0), none, some (.if_icmp .ge 57, 3, [335], 0, 0), none, none, some (.aload_n 0, 1, [0], 0, 0), some (.getfield 150, 3, [12, 74, 2, 2, 48, 41], 0, 0), none, none, some (.bipush 6, 2, [], 6, 0), none, some (.iload 10, 2, [10], 0, 0)],
  [none, some (.imul, 1, [], 0, 0), some (.iload 13, 2, [13], 0, 0), none, some (.iadd, 1, [], 0, 0), some (.lload 8, 2, [8], 0, 0), none, some (.aload_n 0, 1, [0], 0, 0), some (.getfield 150, 3, [12, 74, 2, 2, 48, 41], 0, 0), none, none, some (.bipush 6, 2, [], 6, 0), none, some (.iload 10, 2, [10], 0, 0), none, some (.imul, 1, [], 0, 0), some (.iload 13, 2, [13], 0, 0), none, some (.iadd, 1, [], 0, 0), some (.laload, 1, [], 0, 0), some (.lmul, 1, [], 0, 0), some (.lload 11, 2, [11], 0, 0), none, some (.aload_n 0, 1, [0], 0, 0), some (.getfield 150, 3, [12, 74, 2, 2, 48, 41], 0, 0), none, none, some (.bipush 6, 2, [], 6, 0), none, some (.iload_n 3, 1, [3], 0, 0), some (.imul, 1, [], 0, 0), some (.iload 13, 2, [13], 0, 0)],
  [none, some (.iadd, 1, [], 0, 0), some (.laload, 1, [], 0, 0), some (.lmul, 1, [], 0, 0), some (.lsub, 1, [], 0, 0), some (.lload 4, 2, [4], 0, 0), none, some (.ldiv, 1, [], 0, 0), some (.lastore, 1, [], 0, 0), some (.iinc 13 1, 3, [13], 1, 0), none, none, some (.goto (-58), 3, [274], 0, 0), none, none, some (.iinc 10 1, 3, [10], 1, 0), none, none, some (.goto (-89), 3, [249], 0, 0), none, none, some (.lload 8, 2, [8], 0, 0), none, some (.lstore 4, 2, [4], 0, 0), none, some (.iinc 3 1, 3, [3], 1, 0), none, none, some (.iinc 6 1, 3, [6], 1, 0), none, none, some (.goto (-248), 3, [103], 0, 0)],
  [none, none, some (.iload_n 3, 1, [3], 0, 0), some (.ireturn, 1, [], 0, 0)]]
def F_M_rankOf_274 (N : Nat) (bk : (Int32 → Int32 → Int32 → MH → Option (Int32 × MH)) × (Int32 → Int32 → Int32 → Int32 → MH → Option (Int32 × MH)) × (Int32 → Int64 → Int32 → MH → Option (Int32 × MH)) × (Int32 → Int64 → Int32 → Int32 → Int32 → MH → Option (Int32 × MH)) × (Int32 → Int64 → Int32 → Int32 → Int32 → MH → Option (Int32 × MH)) × (Int32 → Int64 → Int32 → Int64 → Int32 → MH → Option (Int32 × MH)) × (Int32 → Int64 → Int32 → Int64 → Int32 → Int64 → Int32 → MH → Option (Int32 × MH))) (a3 : Int32) (a4 : Int64) (a6 : Int32) (a8 : Int64) (a10 : Int32) (a11 : Int64) (a13 : Int32) (h : MH) : Option (Int32 × MH) :=
  if 6 ≤ a13 then
  (let v24 : Int32 := a10 + 1
  (bk.2.2.2.2.2.1) a3 a4 a6 a8 v24 h)
  else
  (if inB ((6 * a10) + a13) 48 = true then
  (if inB ((6 * a3) + a13) 48 = true then
  (if a4 = 0 then none else
  if inB ((6 * a10) + a13) 48 = true then
  (let h25 : MH := sJ h 109 (iN ((6 * a10) + a13)) (((a8 * (gJ h 109 (iN ((6 * a10) + a13)))) - (a11 * (gJ h 109 (iN ((6 * a3) + a13))))) / a4)
  let v26 : Int32 := a13 + 1
  (bk.2.2.2.2.2.2) a3 a4 a6 a8 a10 a11 v26 h25)
  else none)
  else none)
  else none)
def F_M_rankOf_249 (N : Nat) (bk : (Int32 → Int32 → Int32 → MH → Option (Int32 × MH)) × (Int32 → Int32 → Int32 → Int32 → MH → Option (Int32 × MH)) × (Int32 → Int64 → Int32 → MH → Option (Int32 × MH)) × (Int32 → Int64 → Int32 → Int32 → Int32 → MH → Option (Int32 × MH)) × (Int32 → Int64 → Int32 → Int32 → Int32 → MH → Option (Int32 × MH)) × (Int32 → Int64 → Int32 → Int64 → Int32 → MH → Option (Int32 × MH)) × (Int32 → Int64 → Int32 → Int64 → Int32 → Int64 → Int32 → MH → Option (Int32 × MH))) (a3 : Int32) (a4 : Int64) (a6 : Int32) (a8 : Int64) (a10 : Int32) (h : MH) : Option (Int32 × MH) :=
  if 8 ≤ a10 then
  (let v21 : Int32 := a3 + 1
  let v22 : Int32 := a6 + 1
  (bk.2.2.1) v21 a8 v22 h)
  else
  (if inB ((6 * a10) + a6) 48 = true then
  (let v23 : Int64 := gJ h 109 (iN ((6 * a10) + a6))
  F_M_rankOf_274 N bk a3 a4 a6 a8 a10 v23 0 h)
  else none)
def F_M_rankOf_163 (N : Nat) (bk : (Int32 → Int32 → Int32 → MH → Option (Int32 × MH)) × (Int32 → Int32 → Int32 → Int32 → MH → Option (Int32 × MH)) × (Int32 → Int64 → Int32 → MH → Option (Int32 × MH)) × (Int32 → Int64 → Int32 → Int32 → Int32 → MH → Option (Int32 × MH)) × (Int32 → Int64 → Int32 → Int32 → Int32 → MH → Option (Int32 × MH)) × (Int32 → Int64 → Int32 → Int64 → Int32 → MH → Option (Int32 × MH)) × (Int32 → Int64 → Int32 → Int64 → Int32 → Int64 → Int32 → MH → Option (Int32 × MH))) (a3 : Int32) (a4 : Int64) (a6 : Int32) (a7 : Int32) (a8 : Int32) (h : MH) : Option (Int32 × MH) :=
  if 6 ≤ a8 then
  (if inB ((6 * a3) + a6) 48 = true then
  (let v15 : Int64 := gJ h 109 (iN ((6 * a3) + a6))
  let v16 : Int32 := a3 + 1
  F_M_rankOf_249 N bk a3 a4 a6 v15 v16 h)
  else none)
  else
  (if inB ((6 * a7) + a8) 48 = true then
  (let v17 : Int64 := gJ h 109 (iN ((6 * a7) + a8))
  if inB ((6 * a3) + a8) 48 = true then
  (if inB ((6 * a7) + a8) 48 = true then
  (let h18 : MH := sJ h 109 (iN ((6 * a7) + a8)) (gJ h 109 (iN ((6 * a3) + a8)))
  if inB ((6 * a3) + a8) 48 = true then
  (let h19 : MH := sJ h18 109 (iN ((6 * a3) + a8)) v17
  let v20 : Int32 := a8 + 1
  (bk.2.2.2.2.1) a3 a4 a6 a7 v20 h19)
  else none)
  else none)
  else none)
  else none)
def F_M_rankOf_117 (N : Nat) (bk : (Int32 → Int32 → Int32 → MH → Option (Int32 × MH)) × (Int32 → Int32 → Int32 → Int32 → MH → Option (Int32 × MH)) × (Int32 → Int64 → Int32 → MH → Option (Int32 × MH)) × (Int32 → Int64 → Int32 → Int32 → Int32 → MH → Option (Int32 × MH)) × (Int32 → Int64 → Int32 → Int32 → Int32 → MH → Option (Int32 × MH)) × (Int32 → Int64 → Int32 → Int64 → Int32 → MH → Option (Int32 × MH)) × (Int32 → Int64 → Int32 → Int64 → Int32 → Int64 → Int32 → MH → Option (Int32 × MH))) (a3 : Int32) (a4 : Int64) (a6 : Int32) (a7 : Int32) (a8 : Int32) (h : MH) : Option (Int32 × MH) :=
  if a8 < a3 then
  (if a7 = ((-1)) then
  (let v12 : Int32 := a6 + 1
  (bk.2.2.1) a3 a4 v12 h)
  else
  (F_M_rankOf_163 N bk a3 a4 a6 a7 0 h))
  else
  (if inB ((6 * a8) + a6) 48 = true then
  (if (lg_cmp (gJ h 109 (iN ((6 * a8) + a6))) 0) = 0 then
  (let v13 : Int32 := a8 + (-1)
  (bk.2.2.2.1) a3 a4 a6 a7 v13 h)
  else
  (let v14 : Int32 := a8 + (-1)
  (bk.2.2.2.1) a3 a4 a6 a8 v14 h))
  else none)
def F_M_rankOf_103 (N : Nat) (bk : (Int32 → Int32 → Int32 → MH → Option (Int32 × MH)) × (Int32 → Int32 → Int32 → Int32 → MH → Option (Int32 × MH)) × (Int32 → Int64 → Int32 → MH → Option (Int32 × MH)) × (Int32 → Int64 → Int32 → Int32 → Int32 → MH → Option (Int32 × MH)) × (Int32 → Int64 → Int32 → Int32 → Int32 → MH → Option (Int32 × MH)) × (Int32 → Int64 → Int32 → Int64 → Int32 → MH → Option (Int32 × MH)) × (Int32 → Int64 → Int32 → Int64 → Int32 → Int64 → Int32 → MH → Option (Int32 × MH))) (a3 : Int32) (a4 : Int64) (a6 : Int32) (h : MH) : Option (Int32 × MH) :=
  if 6 ≤ a6 then
  (some (a3, h))
  else
  (F_M_rankOf_117 N bk a3 a4 a6 ((-1)) 7 h)
def F_M_rankOf_11 (N : Nat) (bk : (Int32 → Int32 → Int32 → MH → Option (Int32 × MH)) × (Int32 → Int32 → Int32 → Int32 → MH → Option (Int32 × MH)) × (Int32 → Int64 → Int32 → MH → Option (Int32 × MH)) × (Int32 → Int64 → Int32 → Int32 → Int32 → MH → Option (Int32 × MH)) × (Int32 → Int64 → Int32 → Int32 → Int32 → MH → Option (Int32 × MH)) × (Int32 → Int64 → Int32 → Int64 → Int32 → MH → Option (Int32 × MH)) × (Int32 → Int64 → Int32 → Int64 → Int32 → Int64 → Int32 → MH → Option (Int32 × MH))) (a1 : Int32) (a2 : Int32) (a3 : Int32) (a4 : Int32) (h : MH) : Option (Int32 × MH) :=
  if 6 ≤ a4 then
  (let v1 : Int32 := a3 + 1
  (bk.1) a1 a2 v1 h)
  else
  (if (gI h 68 33) ≤ a3 then
  (if inB ((6 * a3) + a4) 48 = true then
  (let h2 : MH := sJ h 109 (iN ((6 * a3) + a4)) 0
  let v3 : Int32 := a4 + 1
  (bk.2.1) a1 a2 a3 v3 h2)
  else none)
  else
  (if (gI h 68 32) ≤ a4 then
  (if inB ((6 * a3) + a4) 48 = true then
  (let h4 : MH := sJ h 109 (iN ((6 * a3) + a4)) 0
  let v5 : Int32 := a4 + 1
  (bk.2.1) a1 a2 a3 v5 h4)
  else none)
  else
  (if ((a1 >>> (a3 &&& 31)) &&& 1) = 1 then
  (if ((a2 >>> (a4 &&& 31)) &&& 1) = 1 then
  (if inB ((8 * a4) + a3) 48 = true then
  (if inB ((6 * a3) + a4) 48 = true then
  (let h6 : MH := sJ h 109 (iN ((6 * a3) + a4)) (((gI h 88 (iN ((8 * a4) + a3)))).toInt64)
  let v7 : Int32 := a4 + 1
  (bk.2.1) a1 a2 a3 v7 h6)
  else none)
  else none)
  else
  (if inB ((6 * a3) + a4) 48 = true then
  (let h8 : MH := sJ h 109 (iN ((6 * a3) + a4)) 0
  let v9 : Int32 := a4 + 1
  (bk.2.1) a1 a2 a3 v9 h8)
  else none))
  else
  (if inB ((6 * a3) + a4) 48 = true then
  (let h10 : MH := sJ h 109 (iN ((6 * a3) + a4)) 0
  let v11 : Int32 := a4 + 1
  (bk.2.1) a1 a2 a3 v11 h10)
  else none))))
def F_M_rankOf_2 (N : Nat) (bk : (Int32 → Int32 → Int32 → MH → Option (Int32 × MH)) × (Int32 → Int32 → Int32 → Int32 → MH → Option (Int32 × MH)) × (Int32 → Int64 → Int32 → MH → Option (Int32 × MH)) × (Int32 → Int64 → Int32 → Int32 → Int32 → MH → Option (Int32 × MH)) × (Int32 → Int64 → Int32 → Int32 → Int32 → MH → Option (Int32 × MH)) × (Int32 → Int64 → Int32 → Int64 → Int32 → MH → Option (Int32 × MH)) × (Int32 → Int64 → Int32 → Int64 → Int32 → Int64 → Int32 → MH → Option (Int32 × MH))) (a1 : Int32) (a2 : Int32) (a3 : Int32) (h : MH) : Option (Int32 × MH) :=
  if 8 ≤ a3 then
  (F_M_rankOf_103 N bk 0 1 0 h)
  else
  (F_M_rankOf_11 N bk a1 a2 a3 0 h)
def F_M_rankOf_0 (N : Nat) (bk : (Int32 → Int32 → Int32 → MH → Option (Int32 × MH)) × (Int32 → Int32 → Int32 → Int32 → MH → Option (Int32 × MH)) × (Int32 → Int64 → Int32 → MH → Option (Int32 × MH)) × (Int32 → Int64 → Int32 → Int32 → Int32 → MH → Option (Int32 × MH)) × (Int32 → Int64 → Int32 → Int32 → Int32 → MH → Option (Int32 × MH)) × (Int32 → Int64 → Int32 → Int64 → Int32 → MH → Option (Int32 × MH)) × (Int32 → Int64 → Int32 → Int64 → Int32 → Int64 → Int32 → MH → Option (Int32 × MH))) (a1 : Int32) (a2 : Int32) (h : MH) : Option (Int32 × MH) :=
  F_M_rankOf_2 N bk a1 a2 0 h
def L_M_rankOf (N : Nat) : Nat → ((Int32 → Int32 → Int32 → MH → Option (Int32 × MH)) × (Int32 → Int32 → Int32 → Int32 → MH → Option (Int32 × MH)) × (Int32 → Int64 → Int32 → MH → Option (Int32 × MH)) × (Int32 → Int64 → Int32 → Int32 → Int32 → MH → Option (Int32 × MH)) × (Int32 → Int64 → Int32 → Int32 → Int32 → MH → Option (Int32 × MH)) × (Int32 → Int64 → Int32 → Int64 → Int32 → MH → Option (Int32 × MH)) × (Int32 → Int64 → Int32 → Int64 → Int32 → Int64 → Int32 → MH → Option (Int32 × MH)))
  | 0 => (fun _ _ _ _ => none, fun _ _ _ _ _ => none, fun _ _ _ _ => none, fun _ _ _ _ _ _ => none, fun _ _ _ _ _ _ => none, fun _ _ _ _ _ _ => none, fun _ _ _ _ _ _ _ _ => none)
  | n + 1 => (F_M_rankOf_2 N (L_M_rankOf N n), F_M_rankOf_11 N (L_M_rankOf N n), F_M_rankOf_103 N (L_M_rankOf N n), F_M_rankOf_117 N (L_M_rankOf N n), F_M_rankOf_163 N (L_M_rankOf N n), F_M_rankOf_249 N (L_M_rankOf N n), F_M_rankOf_274 N (L_M_rankOf N n))
def f_M_rankOf (N : Nat) (a1 : Int32) (a2 : Int32) (h : MH) : Option (Int32 × MH) := F_M_rankOf_0 N (L_M_rankOf N N) a1 a2 h
def C_M_rankOf (N : Nat) : MC := (KDL, false, (fun _ => 0), jsB, (fun _ _ _ => none), (fun _ _ _ => none), (fun _ _ _ => none), (fun _ _ _ => none))
def D_M_rankOf (N : Nat) (n pc : Nat) (lv : ML) (st : List MV) (h : MH) : Option (Int32 × MH) :=
  match Nat.beq pc 0 with
  | true => (match lk lv 0, lk lv 1, lk lv 2, st with
    | some (.inr (.inr (0, 12, 68))), some (.inl a1), some (.inl a2), [] => F_M_rankOf_0 N (L_M_rankOf N n) a1 a2 h
    | _, _, _, _ => none)
  | false => match Nat.beq pc 2 with
  | true => (match lk lv 0, lk lv 1, lk lv 2, lk lv 3, st with
    | some (.inr (.inr (0, 12, 68))), some (.inl a1), some (.inl a2), some (.inl a3), [] => F_M_rankOf_2 N (L_M_rankOf N n) a1 a2 a3 h
    | _, _, _, _, _ => none)
  | false => match Nat.beq pc 11 with
  | true => (match lk lv 0, lk lv 1, lk lv 2, lk lv 3, lk lv 4, st with
    | some (.inr (.inr (0, 12, 68))), some (.inl a1), some (.inl a2), some (.inl a3), some (.inl a4), [] => F_M_rankOf_11 N (L_M_rankOf N n) a1 a2 a3 a4 h
    | _, _, _, _, _, _ => none)
  | false => match Nat.beq pc 103 with
  | true => (match lk lv 0, lk lv 3, lk lv 4, lk lv 6, st with
    | some (.inr (.inr (0, 12, 68))), some (.inl a3), some (.inr (.inl a4)), some (.inl a6), [] => F_M_rankOf_103 N (L_M_rankOf N n) a3 a4 a6 h
    | _, _, _, _, _ => none)
  | false => match Nat.beq pc 117 with
  | true => (match lk lv 0, lk lv 3, lk lv 4, lk lv 6, lk lv 7, lk lv 8, st with
    | some (.inr (.inr (0, 12, 68))), some (.inl a3), some (.inr (.inl a4)), some (.inl a6), some (.inl a7), some (.inl a8), [] => F_M_rankOf_117 N (L_M_rankOf N n) a3 a4 a6 a7 a8 h
    | _, _, _, _, _, _, _ => none)
  | false => match Nat.beq pc 163 with
  | true => (match lk lv 0, lk lv 3, lk lv 4, lk lv 6, lk lv 7, lk lv 8, st with
    | some (.inr (.inr (0, 12, 68))), some (.inl a3), some (.inr (.inl a4)), some (.inl a6), some (.inl a7), some (.inl a8), [] => F_M_rankOf_163 N (L_M_rankOf N n) a3 a4 a6 a7 a8 h
    | _, _, _, _, _, _, _ => none)
  | false => match Nat.beq pc 249 with
  | true => (match lk lv 0, lk lv 3, lk lv 4, lk lv 6, lk lv 8, lk lv 10, st with
    | some (.inr (.inr (0, 12, 68))), some (.inl a3), some (.inr (.inl a4)), some (.inl a6), some (.inr (.inl a8)), some (.inl a10), [] => F_M_rankOf_249 N (L_M_rankOf N n) a3 a4 a6 a8 a10 h
    | _, _, _, _, _, _, _ => none)
  | false => match Nat.beq pc 274 with
  | true => (match lk lv 0, lk lv 3, lk lv 4, lk lv 6, lk lv 8, lk lv 10, lk lv 11, lk lv 13, st with
    | some (.inr (.inr (0, 12, 68))), some (.inl a3), some (.inr (.inl a4)), some (.inl a6), some (.inr (.inl a8)), some (.inl a10), some (.inr (.inl a11)), some (.inl a13), [] => F_M_rankOf_274 N (L_M_rankOf N n) a3 a4 a6 a8 a10 a11 a13 h
    | _, _, _, _, _, _, _, _, _ => none)
  | false => none
def B_M_rankOf (N : Nat) (n pc : Nat) (lv : ML) (st : List MV) (h : MH) : Option (Int32 × MH) :=
  match Nat.beq pc 2 with
  | true => (match lk lv 0, lk lv 1, lk lv 2, lk lv 3, st with
    | some (.inr (.inr (0, 12, 68))), some (.inl a1), some (.inl a2), some (.inl a3), [] => ((L_M_rankOf N n).1) a1 a2 a3 h
    | _, _, _, _, _ => none)
  | false => match Nat.beq pc 11 with
  | true => (match lk lv 0, lk lv 1, lk lv 2, lk lv 3, lk lv 4, st with
    | some (.inr (.inr (0, 12, 68))), some (.inl a1), some (.inl a2), some (.inl a3), some (.inl a4), [] => ((L_M_rankOf N n).2.1) a1 a2 a3 a4 h
    | _, _, _, _, _, _ => none)
  | false => match Nat.beq pc 103 with
  | true => (match lk lv 0, lk lv 3, lk lv 4, lk lv 6, st with
    | some (.inr (.inr (0, 12, 68))), some (.inl a3), some (.inr (.inl a4)), some (.inl a6), [] => ((L_M_rankOf N n).2.2.1) a3 a4 a6 h
    | _, _, _, _, _ => none)
  | false => match Nat.beq pc 117 with
  | true => (match lk lv 0, lk lv 3, lk lv 4, lk lv 6, lk lv 7, lk lv 8, st with
    | some (.inr (.inr (0, 12, 68))), some (.inl a3), some (.inr (.inl a4)), some (.inl a6), some (.inl a7), some (.inl a8), [] => ((L_M_rankOf N n).2.2.2.1) a3 a4 a6 a7 a8 h
    | _, _, _, _, _, _, _ => none)
  | false => match Nat.beq pc 163 with
  | true => (match lk lv 0, lk lv 3, lk lv 4, lk lv 6, lk lv 7, lk lv 8, st with
    | some (.inr (.inr (0, 12, 68))), some (.inl a3), some (.inr (.inl a4)), some (.inl a6), some (.inl a7), some (.inl a8), [] => ((L_M_rankOf N n).2.2.2.2.1) a3 a4 a6 a7 a8 h
    | _, _, _, _, _, _, _ => none)
  | false => match Nat.beq pc 249 with
  | true => (match lk lv 0, lk lv 3, lk lv 4, lk lv 6, lk lv 8, lk lv 10, st with
    | some (.inr (.inr (0, 12, 68))), some (.inl a3), some (.inr (.inl a4)), some (.inl a6), some (.inr (.inl a8)), some (.inl a10), [] => ((L_M_rankOf N n).2.2.2.2.2.1) a3 a4 a6 a8 a10 h
    | _, _, _, _, _, _, _ => none)
  | false => match Nat.beq pc 274 with
  | true => (match lk lv 0, lk lv 3, lk lv 4, lk lv 6, lk lv 8, lk lv 10, lk lv 11, lk lv 13, st with
    | some (.inr (.inr (0, 12, 68))), some (.inl a3), some (.inr (.inl a4)), some (.inl a6), some (.inr (.inl a8)), some (.inl a10), some (.inr (.inl a11)), some (.inl a13), [] => ((L_M_rankOf N n).2.2.2.2.2.2) a3 a4 a6 a8 a10 a11 a13 h
    | _, _, _, _, _, _, _, _, _ => none)
  | false => none
set_option maxRecDepth 1000000 in
theorem E_M_rankOf_0 (N : Nat) (n : Nat) (a1 : Int32) (a2 : Int32) (h : MH) : seg (C_M_rankOf N) 14 0 rI T_M_rankOf [0, 2, 11, 103, 117, 163, 249, 274] (fun q lv st h => match Nat.ble 1 q with
    | true => D_M_rankOf N n q lv st h
    | false => B_M_rankOf N n q lv st h) 400 true 0 [(0, .inr (.inr (0, 12, 68))), (1, .inl a1), (2, .inl a2)] [] h = F_M_rankOf_0 N (L_M_rankOf N n) a1 a2 h := (rfl)
set_option maxRecDepth 1000000 in
theorem E_M_rankOf_2 (N : Nat) (n : Nat) (a1 : Int32) (a2 : Int32) (a3 : Int32) (h : MH) : seg (C_M_rankOf N) 14 0 rI T_M_rankOf [0, 2, 11, 103, 117, 163, 249, 274] (fun q lv st h => match Nat.ble 3 q with
    | true => D_M_rankOf N n q lv st h
    | false => B_M_rankOf N n q lv st h) 400 true 2 [(0, .inr (.inr (0, 12, 68))), (1, .inl a1), (2, .inl a2), (3, .inl a3)] [] h = F_M_rankOf_2 N (L_M_rankOf N n) a1 a2 a3 h := (rfl)
set_option maxRecDepth 1000000 in
theorem E_M_rankOf_11 (N : Nat) (n : Nat) (a1 : Int32) (a2 : Int32) (a3 : Int32) (a4 : Int32) (h : MH) : seg (C_M_rankOf N) 14 0 rI T_M_rankOf [0, 2, 11, 103, 117, 163, 249, 274] (fun q lv st h => match Nat.ble 12 q with
    | true => D_M_rankOf N n q lv st h
    | false => B_M_rankOf N n q lv st h) 400 true 11 [(0, .inr (.inr (0, 12, 68))), (1, .inl a1), (2, .inl a2), (3, .inl a3), (4, .inl a4)] [] h = F_M_rankOf_11 N (L_M_rankOf N n) a1 a2 a3 a4 h := (rfl)
set_option maxRecDepth 1000000 in
theorem E_M_rankOf_103 (N : Nat) (n : Nat) (a3 : Int32) (a4 : Int64) (a6 : Int32) (h : MH) : seg (C_M_rankOf N) 14 0 rI T_M_rankOf [0, 2, 11, 103, 117, 163, 249, 274] (fun q lv st h => match Nat.ble 104 q with
    | true => D_M_rankOf N n q lv st h
    | false => B_M_rankOf N n q lv st h) 400 true 103 [(0, .inr (.inr (0, 12, 68))), (3, .inl a3), (4, .inr (.inl a4)), (6, .inl a6)] [] h = F_M_rankOf_103 N (L_M_rankOf N n) a3 a4 a6 h := (rfl)
set_option maxRecDepth 1000000 in
theorem E_M_rankOf_117 (N : Nat) (n : Nat) (a3 : Int32) (a4 : Int64) (a6 : Int32) (a7 : Int32) (a8 : Int32) (h : MH) : seg (C_M_rankOf N) 14 0 rI T_M_rankOf [0, 2, 11, 103, 117, 163, 249, 274] (fun q lv st h => match Nat.ble 118 q with
    | true => D_M_rankOf N n q lv st h
    | false => B_M_rankOf N n q lv st h) 400 true 117 [(0, .inr (.inr (0, 12, 68))), (3, .inl a3), (4, .inr (.inl a4)), (6, .inl a6), (7, .inl a7), (8, .inl a8)] [] h = F_M_rankOf_117 N (L_M_rankOf N n) a3 a4 a6 a7 a8 h := (rfl)
set_option maxRecDepth 1000000 in
theorem E_M_rankOf_163 (N : Nat) (n : Nat) (a3 : Int32) (a4 : Int64) (a6 : Int32) (a7 : Int32) (a8 : Int32) (h : MH) : seg (C_M_rankOf N) 14 0 rI T_M_rankOf [0, 2, 11, 103, 117, 163, 249, 274] (fun q lv st h => match Nat.ble 164 q with
    | true => D_M_rankOf N n q lv st h
    | false => B_M_rankOf N n q lv st h) 400 true 163 [(0, .inr (.inr (0, 12, 68))), (3, .inl a3), (4, .inr (.inl a4)), (6, .inl a6), (7, .inl a7), (8, .inl a8)] [] h = F_M_rankOf_163 N (L_M_rankOf N n) a3 a4 a6 a7 a8 h := (rfl)
set_option maxRecDepth 1000000 in
theorem E_M_rankOf_249 (N : Nat) (n : Nat) (a3 : Int32) (a4 : Int64) (a6 : Int32) (a8 : Int64) (a10 : Int32) (h : MH) : seg (C_M_rankOf N) 14 0 rI T_M_rankOf [0, 2, 11, 103, 117, 163, 249, 274] (fun q lv st h => match Nat.ble 250 q with
    | true => D_M_rankOf N n q lv st h
    | false => B_M_rankOf N n q lv st h) 400 true 249 [(0, .inr (.inr (0, 12, 68))), (3, .inl a3), (4, .inr (.inl a4)), (6, .inl a6), (8, .inr (.inl a8)), (10, .inl a10)] [] h = F_M_rankOf_249 N (L_M_rankOf N n) a3 a4 a6 a8 a10 h := (rfl)
set_option maxRecDepth 1000000 in
theorem E_M_rankOf_274 (N : Nat) (n : Nat) (a3 : Int32) (a4 : Int64) (a6 : Int32) (a8 : Int64) (a10 : Int32) (a11 : Int64) (a13 : Int32) (h : MH) : seg (C_M_rankOf N) 14 0 rI T_M_rankOf [0, 2, 11, 103, 117, 163, 249, 274] (fun q lv st h => match Nat.ble 275 q with
    | true => D_M_rankOf N n q lv st h
    | false => B_M_rankOf N n q lv st h) 400 true 274 [(0, .inr (.inr (0, 12, 68))), (3, .inl a3), (4, .inr (.inl a4)), (6, .inl a6), (8, .inr (.inl a8)), (10, .inl a10), (11, .inr (.inl a11)), (13, .inl a13)] [] h = F_M_rankOf_274 N (L_M_rankOf N n) a3 a4 a6 a8 a10 a11 a13 h := (rfl)
set_option maxRecDepth 1000000 in
theorem chk_M_rankOf : chkT 12 false prog_14_method_83_code T_M_rankOf = true := by decide +kernel
theorem mc_M_rankOf : mC 245 = prog_14_method_83_code := by rfl
theorem mx_M_rankOf : mL 245 = 14 ∧ mR 245 = some .int ∧ mK 245 = 1 ∧ (mN 245).cls = cN 12 := by decide +kernel
theorem hD_M_rankOf (N : Nat) {r : Int32 × MH} : ∀ n pc lv st h, D_M_rankOf N n pc lv st h = some r → ∃ lv', (∀ q ∈ lv', q ∈ lv) ∧ seg (C_M_rankOf N) 14 0 rI T_M_rankOf [0, 2, 11, 103, 117, 163, 249, 274] (fun q lv st h => match Nat.ble (pc + 1) q with
    | true => D_M_rankOf N n q lv st h
    | false => B_M_rankOf N n q lv st h) 400 true pc lv' st h = some r := by
  intro n pc lv st h hf
  unfold D_M_rankOf at hf
  split at hf
  · rename_i hb
    have hb := Nat.eq_of_beq_eq_true hb
    subst hb
    split at hf
    · rename_i y0 y1 e0 e1 e2
      exact ⟨_, (sub_cons e0 (sub_cons e1 (sub_cons e2 sub_nil))), (E_M_rankOf_0 N n _ _ h).trans hf⟩
    · cases hf
  · skip
    split at hf
    · rename_i hb
      have hb := Nat.eq_of_beq_eq_true hb
      subst hb
      split at hf
      · rename_i y0 y1 y2 e0 e1 e2 e3
        exact ⟨_, (sub_cons e0 (sub_cons e1 (sub_cons e2 (sub_cons e3 sub_nil)))), (E_M_rankOf_2 N n _ _ _ h).trans hf⟩
      · cases hf
    · skip
      split at hf
      · rename_i hb
        have hb := Nat.eq_of_beq_eq_true hb
        subst hb
        split at hf
        · rename_i y0 y1 y2 y3 e0 e1 e2 e3 e4
          exact ⟨_, (sub_cons e0 (sub_cons e1 (sub_cons e2 (sub_cons e3 (sub_cons e4 sub_nil))))), (E_M_rankOf_11 N n _ _ _ _ h).trans hf⟩
        · cases hf
      · skip
        split at hf
        · rename_i hb
          have hb := Nat.eq_of_beq_eq_true hb
          subst hb
          split at hf
          · rename_i y0 y1 y2 e0 e1 e2 e3
            exact ⟨_, (sub_cons e0 (sub_cons e1 (sub_cons e2 (sub_cons e3 sub_nil)))), (E_M_rankOf_103 N n _ _ _ h).trans hf⟩
          · cases hf
        · skip
          split at hf
          · rename_i hb
            have hb := Nat.eq_of_beq_eq_true hb
            subst hb
            split at hf
            · rename_i y0 y1 y2 y3 y4 e0 e1 e2 e3 e4 e5
              exact ⟨_, (sub_cons e0 (sub_cons e1 (sub_cons e2 (sub_cons e3 (sub_cons e4 (sub_cons e5 sub_nil)))))), (E_M_rankOf_117 N n _ _ _ _ _ h).trans hf⟩
            · cases hf
          · skip
            split at hf
            · rename_i hb
              have hb := Nat.eq_of_beq_eq_true hb
              subst hb
              split at hf
              · rename_i y0 y1 y2 y3 y4 e0 e1 e2 e3 e4 e5
                exact ⟨_, (sub_cons e0 (sub_cons e1 (sub_cons e2 (sub_cons e3 (sub_cons e4 (sub_cons e5 sub_nil)))))), (E_M_rankOf_163 N n _ _ _ _ _ h).trans hf⟩
              · cases hf
            · skip
              split at hf
              · rename_i hb
                have hb := Nat.eq_of_beq_eq_true hb
                subst hb
                split at hf
                · rename_i y0 y1 y2 y3 y4 e0 e1 e2 e3 e4 e5
                  exact ⟨_, (sub_cons e0 (sub_cons e1 (sub_cons e2 (sub_cons e3 (sub_cons e4 (sub_cons e5 sub_nil)))))), (E_M_rankOf_249 N n _ _ _ _ _ h).trans hf⟩
                · cases hf
              · skip
                split at hf
                · rename_i hb
                  have hb := Nat.eq_of_beq_eq_true hb
                  subst hb
                  split at hf
                  · rename_i y0 y1 y2 y3 y4 y5 y6 e0 e1 e2 e3 e4 e5 e6 e7
                    exact ⟨_, (sub_cons e0 (sub_cons e1 (sub_cons e2 (sub_cons e3 (sub_cons e4 (sub_cons e5 (sub_cons e6 (sub_cons e7 sub_nil)))))))), (E_M_rankOf_274 N n _ _ _ _ _ _ _ h).trans hf⟩
                  · cases hf
                · skip
                  cases hf
theorem hM_M_rankOf (N : Nat) {r : Int32 × MH} : ∀ n pc lv st h, D_M_rankOf N n pc lv st h = some r → pc < 356 := by
  intro n pc lv st h hf
  unfold D_M_rankOf at hf
  split at hf
  · rename_i hb
    rw [Nat.eq_of_beq_eq_true hb]
    decide
  · skip
    split at hf
    · rename_i hb
      rw [Nat.eq_of_beq_eq_true hb]
      decide
    · skip
      split at hf
      · rename_i hb
        rw [Nat.eq_of_beq_eq_true hb]
        decide
      · skip
        split at hf
        · rename_i hb
          rw [Nat.eq_of_beq_eq_true hb]
          decide
        · skip
          split at hf
          · rename_i hb
            rw [Nat.eq_of_beq_eq_true hb]
            decide
          · skip
            split at hf
            · rename_i hb
              rw [Nat.eq_of_beq_eq_true hb]
              decide
            · skip
              split at hf
              · rename_i hb
                rw [Nat.eq_of_beq_eq_true hb]
                decide
              · skip
                split at hf
                · rename_i hb
                  rw [Nat.eq_of_beq_eq_true hb]
                  decide
                · skip
                  cases hf
theorem hB_M_rankOf (N : Nat) {r : Int32 × MH} : ∀ n pc lv st h, B_M_rankOf N n pc lv st h = some r → ∃ k, n = k + 1 ∧ D_M_rankOf N k pc lv st h = some r := by
  intro n pc lv st h hf
  unfold B_M_rankOf at hf
  split at hf
  · rename_i hb
    have hb := Nat.eq_of_beq_eq_true hb
    subst hb
    cases n with
    | zero =>
      split at hf
      · cases hf
      · cases hf
    | succ k =>
      refine ⟨k, rfl, ?_⟩
      exact hf
  · skip
    split at hf
    · rename_i hb
      have hb := Nat.eq_of_beq_eq_true hb
      subst hb
      cases n with
      | zero =>
        split at hf
        · cases hf
        · cases hf
      | succ k =>
        refine ⟨k, rfl, ?_⟩
        exact hf
    · skip
      split at hf
      · rename_i hb
        have hb := Nat.eq_of_beq_eq_true hb
        subst hb
        cases n with
        | zero =>
          split at hf
          · cases hf
          · cases hf
        | succ k =>
          refine ⟨k, rfl, ?_⟩
          exact hf
      · skip
        split at hf
        · rename_i hb
          have hb := Nat.eq_of_beq_eq_true hb
          subst hb
          cases n with
          | zero =>
            split at hf
            · cases hf
            · cases hf
          | succ k =>
            refine ⟨k, rfl, ?_⟩
            exact hf
        · skip
          split at hf
          · rename_i hb
            have hb := Nat.eq_of_beq_eq_true hb
            subst hb
            cases n with
            | zero =>
              split at hf
              · cases hf
              · cases hf
            | succ k =>
              refine ⟨k, rfl, ?_⟩
              exact hf
          · skip
            split at hf
            · rename_i hb
              have hb := Nat.eq_of_beq_eq_true hb
              subst hb
              cases n with
              | zero =>
                split at hf
                · cases hf
                · cases hf
              | succ k =>
                refine ⟨k, rfl, ?_⟩
                exact hf
            · skip
              split at hf
              · rename_i hb
                have hb := Nat.eq_of_beq_eq_true hb
                subst hb
                cases n with
                | zero =>
                  split at hf
                  · cases hf
                  · cases hf
                | succ k =>
                  refine ⟨k, rfl, ?_⟩
                  exact hf
              · skip
                cases hf
theorem s_M_rankOf {l : Launch} {E : EV} {N : Nat} {as : List MV} {h : MH} {r : Int32 × MH} (hf : w_M_rankOf (f_M_rankOf N) as h = some r) : SndM l E false 0 245 as h (some (.inl r.1)) r.2 := by
  unfold w_M_rankOf at hf
  split at hf
  · obtain ⟨m1, m2, m3, m4⟩ := mx_M_rankOf
    refine snd_of (C := C_M_rankOf N) (own := 12) (rz := 0) (lim := 115) rI_eq m2 m4 pl_245 (TB_in _ cw_245 rfl) ⟨(fun _ => ⟨_, _, _, _, _, _, rfl, rfl, by rw [m4]; rfl⟩), (fun z => by rw [m3] at z; cases z)⟩ (fun z => by cases z) KDL_take rfl rfl (fun z => by cases z) (fun z => by cases z) (fun _ => rfl) (by rw [m1]; exact Nat.le_of_ble_eq_true rfl)
      (fun _ _ _ _ z => by cases z)
      (fun _ _ _ _ z => by cases z)
      (fun _ _ _ _ z => by cases z)
      (fun _ _ _ _ z => by cases z)
      (fun p e R s m args below meth c Q n0 F hret => ?_)
    rw [m1] at F hret ⊢
    rw [mc_M_rankOf] at F hret
    exact cuts_s (K := 400) (M := 356) (D := D_M_rankOf N) (B := B_M_rankOf N) F hret (chkT_ok chk_M_rankOf) (hM_M_rankOf N) (hB_M_rankOf N) (hD_M_rankOf N) N 0 _ _ _ hf
  · cases hf
def T_M_areMarks : List (List (Option RW)) := [
  [some (.iload_n 1, 1, [1], 0, 0), some (.ifCond .lt 17, 3, [18], 0, 0), none, none, some (.iload_n 1, 1, [1], 0, 0), some (.iconst 1, 1, [], 1, 0), some (.aload_n 0, 1, [0], 0, 0), some (.getfield 351, 3, [12, 33, 0], 0, 0), none, none, some (.ishl, 1, [], 0, 0), some (.if_icmp .ge 7, 3, [18], 0, 0), none, none, some (.iconst 1, 1, [], 1, 0), some (.goto 4, 3, [19], 0, 0), none, none, some (.iconst 0, 1, [], 0, 0), some (.ireturn, 1, [], 0, 0)]]
def f_M_areMarks (N : Nat) (a1 : Int32) (h : MH) : Option (Int32 × MH) :=
  if a1 < 0 then
  (some (0, h))
  else
  (if ((1 : Int32) <<< ((gI h 68 33) &&& 31)) ≤ a1 then
  (some (0, h))
  else
  (some (1, h)))
def C_M_areMarks (N : Nat) : MC := (KDL, false, (fun _ => 0), jsB, (fun _ _ _ => none), (fun _ _ _ => none), (fun _ _ _ => none), (fun _ _ _ => none))
def D_M_areMarks (N : Nat) (n pc : Nat) (lv : ML) (st : List MV) (h : MH) : Option (Int32 × MH) :=
  match Nat.beq pc 0 with
  | true => (match lk lv 0, lk lv 1, st with
    | some (.inr (.inr (0, 12, 68))), some (.inl a1), [] => f_M_areMarks N a1 h
    | _, _, _ => none)
  | false => none
set_option maxRecDepth 1000000 in
theorem E_M_areMarks_0 (N : Nat) (n : Nat) (a1 : Int32) (h : MH) : seg (C_M_areMarks N) 2 1 rI T_M_areMarks [0] (fun q lv st h => match Nat.ble 1 q with
    | true => D_M_areMarks N n q lv st h
    | false => none) 400 true 0 [(0, .inr (.inr (0, 12, 68))), (1, .inl a1)] [] h = f_M_areMarks N a1 h := (rfl)
set_option maxRecDepth 1000000 in
theorem chk_M_areMarks : chkT 12 false prog_14_method_84_code T_M_areMarks = true := by decide +kernel
theorem mc_M_areMarks : mC 246 = prog_14_method_84_code := by rfl
theorem mx_M_areMarks : mL 246 = 2 ∧ mR 246 = some .boolean ∧ mK 246 = 1 ∧ (mN 246).cls = cN 12 := by decide +kernel
theorem hD_M_areMarks (N : Nat) {r : Int32 × MH} : ∀ n pc lv st h, D_M_areMarks N n pc lv st h = some r → ∃ lv', (∀ q ∈ lv', q ∈ lv) ∧ seg (C_M_areMarks N) 2 1 rI T_M_areMarks [0] (fun q lv st h => match Nat.ble (pc + 1) q with
    | true => D_M_areMarks N n q lv st h
    | false => none) 400 true pc lv' st h = some r := by
  intro n pc lv st h hf
  unfold D_M_areMarks at hf
  split at hf
  · rename_i hb
    have hb := Nat.eq_of_beq_eq_true hb
    subst hb
    split at hf
    · rename_i y0 e0 e1
      exact ⟨_, (sub_cons e0 (sub_cons e1 sub_nil)), (E_M_areMarks_0 N n _ h).trans hf⟩
    · cases hf
  · skip
    cases hf
theorem hM_M_areMarks (N : Nat) {r : Int32 × MH} : ∀ n pc lv st h, D_M_areMarks N n pc lv st h = some r → pc < 20 := by
  intro n pc lv st h hf
  unfold D_M_areMarks at hf
  split at hf
  · rename_i hb
    rw [Nat.eq_of_beq_eq_true hb]
    decide
  · skip
    cases hf
theorem s_M_areMarks {l : Launch} {E : EV} {N : Nat} {as : List MV} {h : MH} {r : Int32 × MH} (hf : w_M_areMarks (f_M_areMarks N) as h = some r) : SndM l E false 0 246 as h (some (.inl r.1)) r.2 := by
  unfold w_M_areMarks at hf
  split at hf
  · obtain ⟨m1, m2, m3, m4⟩ := mx_M_areMarks
    refine snd_of (C := C_M_areMarks N) (own := 12) (rz := 1) (lim := 115) rI_eq m2 m4 pl_246 (TB_in _ cw_246 rfl) ⟨(fun _ => ⟨_, _, _, _, _, _, rfl, rfl, by rw [m4]; rfl⟩), (fun z => by rw [m3] at z; cases z)⟩ (fun z => by cases z) KDL_take rfl rfl (fun z => by cases z) (fun z => by cases z) (fun _ => rfl) (by rw [m1]; exact Nat.le_of_ble_eq_true rfl)
      (fun _ _ _ _ z => by cases z)
      (fun _ _ _ _ z => by cases z)
      (fun _ _ _ _ z => by cases z)
      (fun _ _ _ _ z => by cases z)
      (fun p e R s m args below meth c Q n0 F hret => ?_)
    rw [m1] at F hret ⊢
    rw [mc_M_areMarks] at F hret
    exact cuts_s (K := 400) (M := 20) (D := D_M_areMarks N) (B := fun _ _ _ _ _ => none) F hret (chkT_ok chk_M_areMarks) (hM_M_areMarks N) (fun _ _ _ _ _ z => by cases z) (hD_M_areMarks N) N 0 _ _ _ hf
  · cases hf
def T_M_rank : List (List (Option RW)) := [
  [some (.aload_n 0, 1, [0], 0, 0), some (.iload_n 1, 1, [1], 0, 0), some (.invokevirtual 471, 3, [0, 246, 2, 0], 0, 0), none, none, some (.ifCond .eq 12, 3, [17], 0, 0), none, none, some (.iload_n 2, 1, [2], 0, 0), some (.ifCond .lt 8, 3, [17], 0, 0), none, none, some (.iload_n 2, 1, [2], 0, 0), some (.iconst 1, 1, [], 1, 0), some (.if_icmp .le 9, 3, [23], 0, 0), none, none, some (.aload_n 0, 1, [0], 0, 0), some (.iconst 1, 1, [], 1, 0), some (.invokevirtual 342, 3, [0, 168, 2, 0], 0, 0), none, none, some (.ireturn, 1, [], 0, 0), some (.aload_n 0, 1, [0], 0, 0), some (.iload_n 1, 1, [1], 0, 0), some (.bipush 63, 2, [], 63, 0), none, some (.invokevirtual 474, 3, [0, 245, 3, 0], 0, 0), none, none, some (.istore_n 3, 1, [3], 0, 0), some (.aload_n 0, 1, [0], 0, 0)],
  [some (.iload_n 2, 1, [2], 0, 0), some (.ifCond .ne 7, 3, [40], 0, 0), none, none, some (.iload_n 3, 1, [3], 0, 0), some (.goto 9, 3, [46], 0, 0), none, none, some (.aload_n 0, 1, [0], 0, 0), some (.getfield 348, 3, [12, 32, 0], 0, 0), none, none, some (.iload_n 3, 1, [3], 0, 0), some (.isub, 1, [], 0, 0), some (.invokevirtual 180, 3, [0, 169, 2, 0], 0, 0), none, none, some (.ireturn, 1, [], 0, 0)]]
def f_M_rank (N : Nat) (a1 : Int32) (a2 : Int32) (h : MH) : Option (Int32 × MH) :=
  (f_M_areMarks N a1 h).bind (fun x1 =>
  if x1.1 = 0 then
  ((f_M_refuse N 1 x1.2).bind (fun x2 =>
  some (x2.1, x2.2)))
  else
  (if a2 < 0 then
  ((f_M_refuse N 1 x1.2).bind (fun x3 =>
  some (x3.1, x3.2)))
  else
  (if a2 ≤ 1 then
  ((f_M_rankOf N a1 63 x1.2).bind (fun x4 =>
  if a2 = 0 then
  ((f_M_gives N x4.1 x4.2).bind (fun x5 =>
  some (x5.1, x5.2)))
  else
  ((f_M_gives N ((gI x4.2 68 32) - x4.1) x4.2).bind (fun x6 =>
  some (x6.1, x6.2)))))
  else
  ((f_M_refuse N 1 x1.2).bind (fun x7 =>
  some (x7.1, x7.2))))))
def C_M_rank (N : Nat) : MC := (KDL, false, (fun _ => 0), jsB, (fun j => match Nat.beq j 168 with
    | true => w_M_refuse (f_M_refuse N)
    | false => match Nat.beq j 169 with
    | true => w_M_gives (f_M_gives N)
    | false => match Nat.beq j 245 with
    | true => w_M_rankOf (f_M_rankOf N)
    | false => match Nat.beq j 246 with
    | true => w_M_areMarks (f_M_areMarks N)
    | false => fun _ _ => none), (fun _ _ _ => none), (fun _ _ _ => none), (fun _ _ _ => none))
def D_M_rank (N : Nat) (n pc : Nat) (lv : ML) (st : List MV) (h : MH) : Option (Int32 × MH) :=
  match Nat.beq pc 0 with
  | true => (match lk lv 0, lk lv 1, lk lv 2, st with
    | some (.inr (.inr (0, 12, 68))), some (.inl a1), some (.inl a2), [] => f_M_rank N a1 a2 h
    | _, _, _, _ => none)
  | false => none
set_option maxRecDepth 1000000 in
theorem E_M_rank_0 (N : Nat) (n : Nat) (a1 : Int32) (a2 : Int32) (h : MH) : seg (C_M_rank N) 4 0 rI T_M_rank [0] (fun q lv st h => match Nat.ble 1 q with
    | true => D_M_rank N n q lv st h
    | false => none) 400 true 0 [(0, .inr (.inr (0, 12, 68))), (1, .inl a1), (2, .inl a2)] [] h = f_M_rank N a1 a2 h := (rfl)
set_option maxRecDepth 1000000 in
theorem chk_M_rank : chkT 12 false prog_14_method_85_code T_M_rank = true := by decide +kernel
theorem mc_M_rank : mC 247 = prog_14_method_85_code := by rfl
theorem mx_M_rank : mL 247 = 4 ∧ mR 247 = some .int ∧ mK 247 = 1 ∧ (mN 247).cls = cN 12 := by decide +kernel
theorem hD_M_rank (N : Nat) {r : Int32 × MH} : ∀ n pc lv st h, D_M_rank N n pc lv st h = some r → ∃ lv', (∀ q ∈ lv', q ∈ lv) ∧ seg (C_M_rank N) 4 0 rI T_M_rank [0] (fun q lv st h => match Nat.ble (pc + 1) q with
    | true => D_M_rank N n q lv st h
    | false => none) 400 true pc lv' st h = some r := by
  intro n pc lv st h hf
  unfold D_M_rank at hf
  split at hf
  · rename_i hb
    have hb := Nat.eq_of_beq_eq_true hb
    subst hb
    split at hf
    · rename_i y0 y1 e0 e1 e2
      exact ⟨_, (sub_cons e0 (sub_cons e1 (sub_cons e2 sub_nil))), (E_M_rank_0 N n _ _ h).trans hf⟩
    · cases hf
  · skip
    cases hf
theorem hM_M_rank (N : Nat) {r : Int32 × MH} : ∀ n pc lv st h, D_M_rank N n pc lv st h = some r → pc < 50 := by
  intro n pc lv st h hf
  unfold D_M_rank at hf
  split at hf
  · rename_i hb
    rw [Nat.eq_of_beq_eq_true hb]
    decide
  · skip
    cases hf
theorem s_M_rank {l : Launch} {E : EV} {N : Nat} {as : List MV} {h : MH} {r : Int32 × MH} (hf : w_M_rank (f_M_rank N) as h = some r) : SndM l E false 1 247 as h (some (.inl r.1)) r.2 := by
  unfold w_M_rank at hf
  split at hf
  · obtain ⟨m1, m2, m3, m4⟩ := mx_M_rank
    refine snd_of (C := C_M_rank N) (own := 12) (rz := 0) (lim := 115) rI_eq m2 m4 pl_247 (TB_in _ cw_247 rfl) ⟨(fun _ => ⟨_, _, _, _, _, _, rfl, rfl, by rw [m4]; rfl⟩), (fun z => by rw [m3] at z; cases z)⟩ (fun z => by cases z) KDL_take rfl rfl (fun z => by cases z) (fun z => by cases z) (fun _ => rfl) (by rw [m1]; exact Nat.le_of_ble_eq_true rfl)
      (fun j as h x z => by
      dsimp only [C_M_rank] at z
      cases hb : Nat.beq j 168 with
      | true =>
        have hb := Nat.eq_of_beq_eq_true hb
        subst hb
        exact ⟨0, by decide, (fun z => by cases z), s_M_refuse z⟩
      | false =>
        rw [hb] at z
        dsimp only at z
        cases hb : Nat.beq j 169 with
        | true =>
          have hb := Nat.eq_of_beq_eq_true hb
          subst hb
          exact ⟨0, by decide, (fun z => by cases z), s_M_gives z⟩
        | false =>
          rw [hb] at z
          dsimp only at z
          cases hb : Nat.beq j 245 with
          | true =>
            have hb := Nat.eq_of_beq_eq_true hb
            subst hb
            exact ⟨0, by decide, (fun z => by cases z), s_M_rankOf z⟩
          | false =>
            rw [hb] at z
            dsimp only at z
            cases hb : Nat.beq j 246 with
            | true =>
              have hb := Nat.eq_of_beq_eq_true hb
              subst hb
              exact ⟨0, by decide, (fun z => by cases z), s_M_areMarks z⟩
            | false =>
              rw [hb] at z
              dsimp only at z
              cases z)
      (fun _ _ _ _ z => by cases z)
      (fun _ _ _ _ z => by cases z)
      (fun _ _ _ _ z => by cases z)
      (fun p e R s m args below meth c Q n0 F hret => ?_)
    rw [m1] at F hret ⊢
    rw [mc_M_rank] at F hret
    exact cuts_s (K := 400) (M := 50) (D := D_M_rank N) (B := fun _ _ _ _ _ => none) F hret (chkT_ok chk_M_rank) (hM_M_rank N) (fun _ _ _ _ _ z => by cases z) (hD_M_rank N) N 0 _ _ _ hf
  · cases hf
def T_M_apart : List (List (Option RW)) := [
  [some (.aload_n 0, 1, [0], 0, 0), some (.iload_n 1, 1, [1], 0, 0), some (.invokevirtual 363, 3, [0, 206, 2, 0], 0, 0), none, none, some (.ifCond .eq 11, 3, [16], 0, 0), none, none, some (.aload_n 0, 1, [0], 0, 0), some (.iload_n 2, 1, [2], 0, 0), some (.invokevirtual 471, 3, [0, 246, 2, 0], 0, 0), none, none, some (.ifCond .ne 9, 3, [22], 0, 0), none, none, some (.aload_n 0, 1, [0], 0, 0), some (.iconst 1, 1, [], 1, 0), some (.invokevirtual 342, 3, [0, 168, 2, 0], 0, 0), none, none, some (.ireturn, 1, [], 0, 0), some (.aload_n 0, 1, [0], 0, 0), some (.aload_n 0, 1, [0], 0, 0), some (.iload_n 2, 1, [2], 0, 0), some (.bipush 63, 2, [], 63, 0), none, some (.invokevirtual 474, 3, [0, 245, 3, 0], 0, 0), none, none, some (.aload_n 0, 1, [0], 0, 0), some (.iload_n 2, 1, [2], 0, 0)],
  [some (.bipush 63, 2, [], 63, 0), none, some (.iconst 1, 1, [], 1, 0), some (.iload_n 1, 1, [1], 0, 0), some (.ishl, 1, [], 0, 0), some (.iconst (-1), 1, [], (-1), 0), some (.ixor, 1, [], 0, 0), some (.iand, 1, [], 0, 0), some (.invokevirtual 474, 3, [0, 245, 3, 0], 0, 0), none, none, some (.iconst 1, 1, [], 1, 0), some (.iadd, 1, [], 0, 0), some (.if_icmp .ne 7, 3, [52], 0, 0), none, none, some (.iconst 1, 1, [], 1, 0), some (.goto 4, 3, [53], 0, 0), none, none, some (.iconst 0, 1, [], 0, 0), some (.invokevirtual 180, 3, [0, 169, 2, 0], 0, 0), none, none, some (.ireturn, 1, [], 0, 0)]]
def f_M_apart (N : Nat) (a1 : Int32) (a2 : Int32) (h : MH) : Option (Int32 × MH) :=
  (f_M_isCell N a1 h).bind (fun x1 =>
  if x1.1 = 0 then
  ((f_M_refuse N 1 x1.2).bind (fun x2 =>
  some (x2.1, x2.2)))
  else
  ((f_M_areMarks N a2 x1.2).bind (fun x3 =>
  if x3.1 = 0 then
  ((f_M_refuse N 1 x3.2).bind (fun x4 =>
  some (x4.1, x4.2)))
  else
  ((f_M_rankOf N a2 63 x3.2).bind (fun x5 =>
  (f_M_rankOf N a2 (63 &&& (((1 : Int32) <<< (a1 &&& 31)) ^^^ ((-1)))) x5.2).bind (fun x6 =>
  if x5.1 = (x6.1 + 1) then
  ((f_M_gives N 1 x6.2).bind (fun x7 =>
  some (x7.1, x7.2)))
  else
  ((f_M_gives N 0 x6.2).bind (fun x8 =>
  some (x8.1, x8.2)))))))))
def C_M_apart (N : Nat) : MC := (KDL, false, (fun _ => 0), jsB, (fun j => match Nat.beq j 168 with
    | true => w_M_refuse (f_M_refuse N)
    | false => match Nat.beq j 169 with
    | true => w_M_gives (f_M_gives N)
    | false => match Nat.beq j 206 with
    | true => w_M_isCell (f_M_isCell N)
    | false => match Nat.beq j 245 with
    | true => w_M_rankOf (f_M_rankOf N)
    | false => match Nat.beq j 246 with
    | true => w_M_areMarks (f_M_areMarks N)
    | false => fun _ _ => none), (fun _ _ _ => none), (fun _ _ _ => none), (fun _ _ _ => none))
def D_M_apart (N : Nat) (n pc : Nat) (lv : ML) (st : List MV) (h : MH) : Option (Int32 × MH) :=
  match Nat.beq pc 0 with
  | true => (match lk lv 0, lk lv 1, lk lv 2, st with
    | some (.inr (.inr (0, 12, 68))), some (.inl a1), some (.inl a2), [] => f_M_apart N a1 a2 h
    | _, _, _, _ => none)
  | false => none
set_option maxRecDepth 1000000 in
theorem E_M_apart_0 (N : Nat) (n : Nat) (a1 : Int32) (a2 : Int32) (h : MH) : seg (C_M_apart N) 3 0 rI T_M_apart [0] (fun q lv st h => match Nat.ble 1 q with
    | true => D_M_apart N n q lv st h
    | false => none) 400 true 0 [(0, .inr (.inr (0, 12, 68))), (1, .inl a1), (2, .inl a2)] [] h = f_M_apart N a1 a2 h := (rfl)
set_option maxRecDepth 1000000 in
theorem chk_M_apart : chkT 12 false prog_14_method_86_code T_M_apart = true := by decide +kernel
theorem mc_M_apart : mC 248 = prog_14_method_86_code := by rfl
theorem mx_M_apart : mL 248 = 3 ∧ mR 248 = some .int ∧ mK 248 = 1 ∧ (mN 248).cls = cN 12 := by decide +kernel
theorem hD_M_apart (N : Nat) {r : Int32 × MH} : ∀ n pc lv st h, D_M_apart N n pc lv st h = some r → ∃ lv', (∀ q ∈ lv', q ∈ lv) ∧ seg (C_M_apart N) 3 0 rI T_M_apart [0] (fun q lv st h => match Nat.ble (pc + 1) q with
    | true => D_M_apart N n q lv st h
    | false => none) 400 true pc lv' st h = some r := by
  intro n pc lv st h hf
  unfold D_M_apart at hf
  split at hf
  · rename_i hb
    have hb := Nat.eq_of_beq_eq_true hb
    subst hb
    split at hf
    · rename_i y0 y1 e0 e1 e2
      exact ⟨_, (sub_cons e0 (sub_cons e1 (sub_cons e2 sub_nil))), (E_M_apart_0 N n _ _ h).trans hf⟩
    · cases hf
  · skip
    cases hf
theorem hM_M_apart (N : Nat) {r : Int32 × MH} : ∀ n pc lv st h, D_M_apart N n pc lv st h = some r → pc < 57 := by
  intro n pc lv st h hf
  unfold D_M_apart at hf
  split at hf
  · rename_i hb
    rw [Nat.eq_of_beq_eq_true hb]
    decide
  · skip
    cases hf
theorem s_M_apart {l : Launch} {E : EV} {N : Nat} {as : List MV} {h : MH} {r : Int32 × MH} (hf : w_M_apart (f_M_apart N) as h = some r) : SndM l E false 1 248 as h (some (.inl r.1)) r.2 := by
  unfold w_M_apart at hf
  split at hf
  · obtain ⟨m1, m2, m3, m4⟩ := mx_M_apart
    refine snd_of (C := C_M_apart N) (own := 12) (rz := 0) (lim := 115) rI_eq m2 m4 pl_248 (TB_in _ cw_248 rfl) ⟨(fun _ => ⟨_, _, _, _, _, _, rfl, rfl, by rw [m4]; rfl⟩), (fun z => by rw [m3] at z; cases z)⟩ (fun z => by cases z) KDL_take rfl rfl (fun z => by cases z) (fun z => by cases z) (fun _ => rfl) (by rw [m1]; exact Nat.le_of_ble_eq_true rfl)
      (fun j as h x z => by
      dsimp only [C_M_apart] at z
      cases hb : Nat.beq j 168 with
      | true =>
        have hb := Nat.eq_of_beq_eq_true hb
        subst hb
        exact ⟨0, by decide, (fun z => by cases z), s_M_refuse z⟩
      | false =>
        rw [hb] at z
        dsimp only at z
        cases hb : Nat.beq j 169 with
        | true =>
          have hb := Nat.eq_of_beq_eq_true hb
          subst hb
          exact ⟨0, by decide, (fun z => by cases z), s_M_gives z⟩
        | false =>
          rw [hb] at z
          dsimp only at z
          cases hb : Nat.beq j 206 with
          | true =>
            have hb := Nat.eq_of_beq_eq_true hb
            subst hb
            exact ⟨0, by decide, (fun z => by cases z), s_M_isCell z⟩
          | false =>
            rw [hb] at z
            dsimp only at z
            cases hb : Nat.beq j 245 with
            | true =>
              have hb := Nat.eq_of_beq_eq_true hb
              subst hb
              exact ⟨0, by decide, (fun z => by cases z), s_M_rankOf z⟩
            | false =>
              rw [hb] at z
              dsimp only at z
              cases hb : Nat.beq j 246 with
              | true =>
                have hb := Nat.eq_of_beq_eq_true hb
                subst hb
                exact ⟨0, by decide, (fun z => by cases z), s_M_areMarks z⟩
              | false =>
                rw [hb] at z
                dsimp only at z
                cases z)
      (fun _ _ _ _ z => by cases z)
      (fun _ _ _ _ z => by cases z)
      (fun _ _ _ _ z => by cases z)
      (fun p e R s m args below meth c Q n0 F hret => ?_)
    rw [m1] at F hret ⊢
    rw [mc_M_apart] at F hret
    exact cuts_s (K := 400) (M := 57) (D := D_M_apart N) (B := fun _ _ _ _ _ => none) F hret (chkT_ok chk_M_apart) (hM_M_apart N) (fun _ _ _ _ _ z => by cases z) (hD_M_apart N) N 0 _ _ _ hf
  · cases hf
def T_M_shake : List (List (Option RW)) := [
  [some (.iload_n 1, 1, [1], 0, 0), some (.invokestatic 369, 3, [2, 209, 1, 0], 0, 0), none, none, some (.ifCond .eq 21, 3, [25], 0, 0), none, none, some (.aload_n 0, 1, [0], 0, 0), some (.iload_n 2, 1, [2], 0, 0), some (.invokevirtual 363, 3, [0, 206, 2, 0], 0, 0), none, none, some (.ifCond .eq 13, 3, [25], 0, 0), none, none, some (.iload_n 3, 1, [3], 0, 0), some (.ifCond .lt 9, 3, [25], 0, 0), none, none, some (.iload_n 3, 1, [3], 0, 0), some (.bipush 99, 2, [], 99, 0), none, some (.if_icmp .le 9, 3, [31], 0, 0), none, none, some (.aload_n 0, 1, [0], 0, 0), some (.iconst 1, 1, [], 1, 0), some (.invokevirtual 188, 3, [0, 167, 2, 0], 0, 0), none, none, some (.ireturn, 1, [], 0, 0), some (.aload_n 0, 1, [0], 0, 0)],
  [some (.getfield 360, 3, [12, 75, 0], 0, 0), none, none, some (.bipush 30, 2, [], 30, 0), none, some (.if_icmp .ne 9, 3, [46], 0, 0), none, none, some (.aload_n 0, 1, [0], 0, 0), some (.iconst 4, 1, [], 4, 0), some (.invokevirtual 188, 3, [0, 167, 2, 0], 0, 0), none, none, some (.ireturn, 1, [], 0, 0), some (.aload_n 0, 1, [0], 0, 0), some (.getfield 153, 3, [12, 76, 2, 1, 30, 42], 0, 0), none, none, some (.aload_n 0, 1, [0], 0, 0), some (.getfield 360, 3, [12, 75, 0], 0, 0), none, none, some (.iload_n 1, 1, [1], 0, 0), some (.iastore, 1, [], 0, 0), some (.aload_n 0, 1, [0], 0, 0), some (.getfield 156, 3, [12, 77, 2, 1, 30, 43], 0, 0), none, none, some (.aload_n 0, 1, [0], 0, 0), some (.getfield 360, 3, [12, 75, 0], 0, 0), none, none],
  [some (.iload_n 2, 1, [2], 0, 0), some (.iastore, 1, [], 0, 0), some (.aload_n 0, 1, [0], 0, 0), some (.getfield 159, 3, [12, 78, 2, 1, 30, 44], 0, 0), none, none, some (.aload_n 0, 1, [0], 0, 0), some (.getfield 360, 3, [12, 75, 0], 0, 0), none, none, some (.iload_n 3, 1, [3], 0, 0), some (.iastore, 1, [], 0, 0), some (.aload_n 0, 1, [0], 0, 0), some (.dup, 1, [], 0, 0), some (.getfield 360, 3, [12, 75, 0], 0, 0), none, none, some (.iconst 1, 1, [], 1, 0), some (.iadd, 1, [], 0, 0), some (.putfield 360, 3, [12, 75, 0], 0, 0), none, none, some (.aload_n 0, 1, [0], 0, 0), some (.iconst 0, 1, [], 0, 0), some (.invokevirtual 188, 3, [0, 167, 2, 0], 0, 0), none, none, some (.ireturn, 1, [], 0, 0)]]
def f_M_shake (N : Nat) (a1 : Int32) (a2 : Int32) (a3 : Int32) (h : MH) : Option (Int32 × MH) :=
  (f_M_isYear N a1 h).bind (fun x1 =>
  if x1.1 = 0 then
  ((f_M_is N 1 x1.2).bind (fun x2 =>
  match narOK 1 x2.1 with
  | true => some (x2.1, x2.2)
  | false => none))
  else
  ((f_M_isCell N a2 x1.2).bind (fun x3 =>
  if x3.1 = 0 then
  ((f_M_is N 1 x3.2).bind (fun x4 =>
  match narOK 1 x4.1 with
  | true => some (x4.1, x4.2)
  | false => none))
  else
  (if a3 < 0 then
  ((f_M_is N 1 x3.2).bind (fun x5 =>
  match narOK 1 x5.1 with
  | true => some (x5.1, x5.2)
  | false => none))
  else
  (if a3 ≤ 99 then
  (if (gI x3.2 68 75) = 30 then
  ((f_M_is N 4 x3.2).bind (fun x6 =>
  match narOK 1 x6.1 with
  | true => some (x6.1, x6.2)
  | false => none))
  else
  (if inB (gI x3.2 68 75) 30 = true then
  (let h7 : MH := sI x3.2 110 (iN (gI x3.2 68 75)) a1
  if inB (gI h7 68 75) 30 = true then
  (let h8 : MH := sI h7 111 (iN (gI h7 68 75)) a2
  if inB (gI h8 68 75) 30 = true then
  (let h9 : MH := sI h8 112 (iN (gI h8 68 75)) a3
  let h10 : MH := sI h9 68 75 ((gI h9 68 75) + 1)
  (f_M_is N 0 h10).bind (fun x11 =>
  match narOK 1 x11.1 with
  | true => some (x11.1, x11.2)
  | false => none))
  else none)
  else none)
  else none))
  else
  ((f_M_is N 1 x3.2).bind (fun x12 =>
  match narOK 1 x12.1 with
  | true => some (x12.1, x12.2)
  | false => none)))))))
def C_M_shake (N : Nat) : MC := (KDL, false, (fun _ => 0), jsB, (fun j => match Nat.beq j 167 with
    | true => w_M_is (f_M_is N)
    | false => match Nat.beq j 206 with
    | true => w_M_isCell (f_M_isCell N)
    | false => match Nat.beq j 209 with
    | true => w_M_isYear (f_M_isYear N)
    | false => fun _ _ => none), (fun _ _ _ => none), (fun _ _ _ => none), (fun _ _ _ => none))
def D_M_shake (N : Nat) (n pc : Nat) (lv : ML) (st : List MV) (h : MH) : Option (Int32 × MH) :=
  match Nat.beq pc 0 with
  | true => (match lk lv 0, lk lv 1, lk lv 2, lk lv 3, st with
    | some (.inr (.inr (0, 12, 68))), some (.inl a1), some (.inl a2), some (.inl a3), [] => f_M_shake N a1 a2 a3 h
    | _, _, _, _, _ => none)
  | false => none
set_option maxRecDepth 1000000 in
theorem E_M_shake_0 (N : Nat) (n : Nat) (a1 : Int32) (a2 : Int32) (a3 : Int32) (h : MH) : seg (C_M_shake N) 4 1 rI T_M_shake [0] (fun q lv st h => match Nat.ble 1 q with
    | true => D_M_shake N n q lv st h
    | false => none) 400 true 0 [(0, .inr (.inr (0, 12, 68))), (1, .inl a1), (2, .inl a2), (3, .inl a3)] [] h = f_M_shake N a1 a2 a3 h := (rfl)
set_option maxRecDepth 1000000 in
theorem chk_M_shake : chkT 12 false prog_14_method_87_code T_M_shake = true := by decide +kernel
theorem mc_M_shake : mC 249 = prog_14_method_87_code := by rfl
theorem mx_M_shake : mL 249 = 4 ∧ mR 249 = some .boolean ∧ mK 249 = 1 ∧ (mN 249).cls = cN 12 := by decide +kernel
theorem hD_M_shake (N : Nat) {r : Int32 × MH} : ∀ n pc lv st h, D_M_shake N n pc lv st h = some r → ∃ lv', (∀ q ∈ lv', q ∈ lv) ∧ seg (C_M_shake N) 4 1 rI T_M_shake [0] (fun q lv st h => match Nat.ble (pc + 1) q with
    | true => D_M_shake N n q lv st h
    | false => none) 400 true pc lv' st h = some r := by
  intro n pc lv st h hf
  unfold D_M_shake at hf
  split at hf
  · rename_i hb
    have hb := Nat.eq_of_beq_eq_true hb
    subst hb
    split at hf
    · rename_i y0 y1 y2 e0 e1 e2 e3
      exact ⟨_, (sub_cons e0 (sub_cons e1 (sub_cons e2 (sub_cons e3 sub_nil)))), (E_M_shake_0 N n _ _ _ h).trans hf⟩
    · cases hf
  · skip
    cases hf
theorem hM_M_shake (N : Nat) {r : Int32 × MH} : ∀ n pc lv st h, D_M_shake N n pc lv st h = some r → pc < 92 := by
  intro n pc lv st h hf
  unfold D_M_shake at hf
  split at hf
  · rename_i hb
    rw [Nat.eq_of_beq_eq_true hb]
    decide
  · skip
    cases hf
theorem s_M_shake {l : Launch} {E : EV} {N : Nat} {as : List MV} {h : MH} {r : Int32 × MH} (hf : w_M_shake (f_M_shake N) as h = some r) : SndM l E false 1 249 as h (some (.inl r.1)) r.2 := by
  unfold w_M_shake at hf
  split at hf
  · obtain ⟨m1, m2, m3, m4⟩ := mx_M_shake
    refine snd_of (C := C_M_shake N) (own := 12) (rz := 1) (lim := 115) rI_eq m2 m4 pl_249 (TB_in _ cw_249 rfl) ⟨(fun _ => ⟨_, _, _, _, _, _, rfl, rfl, by rw [m4]; rfl⟩), (fun z => by rw [m3] at z; cases z)⟩ (fun z => by cases z) KDL_take rfl rfl (fun z => by cases z) (fun z => by cases z) (fun _ => rfl) (by rw [m1]; exact Nat.le_of_ble_eq_true rfl)
      (fun j as h x z => by
      dsimp only [C_M_shake] at z
      cases hb : Nat.beq j 167 with
      | true =>
        have hb := Nat.eq_of_beq_eq_true hb
        subst hb
        exact ⟨0, by decide, (fun z => by cases z), s_M_is z⟩
      | false =>
        rw [hb] at z
        dsimp only at z
        cases hb : Nat.beq j 206 with
        | true =>
          have hb := Nat.eq_of_beq_eq_true hb
          subst hb
          exact ⟨0, by decide, (fun z => by cases z), s_M_isCell z⟩
        | false =>
          rw [hb] at z
          dsimp only at z
          cases hb : Nat.beq j 209 with
          | true =>
            have hb := Nat.eq_of_beq_eq_true hb
            subst hb
            exact ⟨0, by decide, (fun z => by cases z), s_M_isYear z⟩
          | false =>
            rw [hb] at z
            dsimp only at z
            cases z)
      (fun _ _ _ _ z => by cases z)
      (fun _ _ _ _ z => by cases z)
      (fun _ _ _ _ z => by cases z)
      (fun p e R s m args below meth c Q n0 F hret => ?_)
    rw [m1] at F hret ⊢
    rw [mc_M_shake] at F hret
    exact cuts_s (K := 400) (M := 92) (D := D_M_shake N) (B := fun _ _ _ _ _ => none) F hret (chkT_ok chk_M_shake) (hM_M_shake N) (fun _ _ _ _ _ z => by cases z) (hD_M_shake N) N 0 _ _ _ hf
  · cases hf
def T_M_saved : List (List (Option RW)) := [
  [some (.aload_n 0, 1, [0], 0, 0), some (.iload_n 1, 1, [1], 0, 0), some (.invokevirtual 363, 3, [0, 206, 2, 0], 0, 0), none, none, some (.ifCond .eq 19, 3, [24], 0, 0), none, none, some (.iload_n 2, 1, [2], 0, 0), some (.invokestatic 369, 3, [2, 209, 1, 0], 0, 0), none, none, some (.ifCond .eq 12, 3, [24], 0, 0), none, none, some (.iload_n 3, 1, [3], 0, 0), some (.ifCond .lt 8, 3, [24], 0, 0), none, none, some (.iload_n 3, 1, [3], 0, 0), some (.iconst 1, 1, [], 1, 0), some (.if_icmp .le 9, 3, [30], 0, 0), none, none, some (.aload_n 0, 1, [0], 0, 0), some (.iconst 1, 1, [], 1, 0), some (.invokevirtual 342, 3, [0, 168, 2, 0], 0, 0), none, none, some (.ireturn, 1, [], 0, 0), some (.lconst 0, 1, [], 0, 0), some (.lstore 4, 2, [4], 0, 0)],
  [none, some (.iconst 0, 1, [], 0, 0), some (.istore 6, 2, [6], 0, 0), none, some (.iload 6, 2, [6], 0, 0), none, some (.iload_n 2, 1, [2], 0, 0), some (.if_icmp .gt 105, 3, [144], 0, 0), none, none, some (.lload 4, 2, [4], 0, 0), none, some (.aload_n 0, 1, [0], 0, 0), some (.getfield 72, 3, [12, 34, 2, 1, 6, 17], 0, 0), none, none, some (.iload_n 1, 1, [1], 0, 0), some (.iaload, 1, [], 0, 0), some (.i2l, 1, [], 0, 0), some (.iload_n 3, 1, [3], 0, 0), some (.ifCond .ne 12, 3, [64], 0, 0), none, none, some (.aload_n 0, 1, [0], 0, 0), some (.getfield 75, 3, [12, 35, 2, 1, 6, 18], 0, 0), none, none, some (.iload_n 1, 1, [1], 0, 0), some (.iaload, 1, [], 0, 0), some (.goto 9, 3, [70], 0, 0), none, none],
  [some (.aload_n 0, 1, [0], 0, 0), some (.getfield 78, 3, [12, 36, 2, 1, 6, 19], 0, 0), none, none, some (.iload_n 1, 1, [1], 0, 0), some (.iaload, 1, [], 0, 0), some (.i2l, 1, [], 0, 0), some (.lmul, 1, [], 0, 0), some (.ladd, 1, [], 0, 0), some (.lstore 4, 2, [4], 0, 0), none, some (.iconst 0, 1, [], 0, 0), some (.istore 7, 2, [7], 0, 0), none, some (.iload 7, 2, [7], 0, 0), none, some (.aload_n 0, 1, [0], 0, 0), some (.getfield 360, 3, [12, 75, 0], 0, 0), none, none, some (.if_icmp .ge 54, 3, [138], 0, 0), none, none, some (.aload_n 0, 1, [0], 0, 0), some (.getfield 153, 3, [12, 76, 2, 1, 30, 42], 0, 0), none, none, some (.iload 7, 2, [7], 0, 0), none, some (.iaload, 1, [], 0, 0), some (.iload 6, 2, [6], 0, 0), none],
  [some (.if_icmp .ne 36, 3, [132], 0, 0), none, none, some (.aload_n 0, 1, [0], 0, 0), some (.getfield 156, 3, [12, 77, 2, 1, 30, 43], 0, 0), none, none, some (.iload 7, 2, [7], 0, 0), none, some (.iaload, 1, [], 0, 0), some (.iload_n 1, 1, [1], 0, 0), some (.if_icmp .ne 25, 3, [132], 0, 0), none, none, some (.lload 4, 2, [4], 0, 0), none, some (.lload 4, 2, [4], 0, 0), none, some (.ldc2_w 477, 3, [], 0, 10000), none, none, some (.aload_n 0, 1, [0], 0, 0), some (.getfield 159, 3, [12, 78, 2, 1, 30, 44], 0, 0), none, none, some (.iload 7, 2, [7], 0, 0), none, some (.iaload, 1, [], 0, 0), some (.i2l, 1, [], 0, 0), some (.lmul, 1, [], 0, 0), some (.invokestatic 479, 3, [2, 262, 2, 1], 0, 0), none],
  [none, some (.lsub, 1, [], 0, 0), some (.lstore 4, 2, [4], 0, 0), none, some (.iinc 7 1, 3, [7], 1, 0), none, none, some (.goto (-57), 3, [78], 0, 0), none, none, some (.iinc 6 1, 3, [6], 1, 0), none, none, some (.goto (-105), 3, [36], 0, 0), none, none, some (.aload_n 0, 1, [0], 0, 0), some (.lload 4, 2, [4], 0, 0), none, some (.ldc2_w 477, 3, [], 0, 10000), none, none, some (.invokevirtual 417, 3, [0, 170, 3, 0], 0, 0), none, none, some (.ireturn, 1, [], 0, 0)]]
def F_M_saved_78 (N : Nat) (bk : (Int32 → Int32 → Int32 → Int64 → Int32 → MH → Option (Int32 × MH)) × (Int32 → Int32 → Int32 → Int64 → Int32 → Int32 → MH → Option (Int32 × MH))) (a1 : Int32) (a2 : Int32) (a3 : Int32) (a4 : Int64) (a6 : Int32) (a7 : Int32) (h : MH) : Option (Int32 × MH) :=
  if (gI h 68 75) ≤ a7 then
  (let v10 : Int32 := a6 + 1
  (bk.1) a1 a2 a3 a4 v10 h)
  else
  (if inB a7 30 = true then
  (if (gI h 110 (iN a7)) = a6 then
  (if inB a7 30 = true then
  (if (gI h 111 (iN a7)) = a1 then
  (if inB a7 30 = true then
  ((f_Math_min_JJ N a4 (10000 * (((gI h 112 (iN a7))).toInt64)) h).bind (fun x11 =>
  let v12 : Int64 := a4 - x11.1
  let v13 : Int32 := a7 + 1
  (bk.2) a1 a2 a3 v12 a6 v13 x11.2))
  else none)
  else
  (let v14 : Int32 := a7 + 1
  (bk.2) a1 a2 a3 a4 a6 v14 h))
  else none)
  else
  (let v15 : Int32 := a7 + 1
  (bk.2) a1 a2 a3 a4 a6 v15 h))
  else none)
def F_M_saved_36 (N : Nat) (bk : (Int32 → Int32 → Int32 → Int64 → Int32 → MH → Option (Int32 × MH)) × (Int32 → Int32 → Int32 → Int64 → Int32 → Int32 → MH → Option (Int32 × MH))) (a1 : Int32) (a2 : Int32) (a3 : Int32) (a4 : Int64) (a6 : Int32) (h : MH) : Option (Int32 × MH) :=
  if a2 < a6 then
  ((f_M_fraction N a4 10000 h).bind (fun x7 =>
  some (x7.1, x7.2)))
  else
  (if inB a1 6 = true then
  (if a3 = 0 then
  (if inB a1 6 = true then
  (let v8 : Int64 := a4 + ((((gI h 85 (iN a1))).toInt64) * (((gI h 86 (iN a1))).toInt64))
  F_M_saved_78 N bk a1 a2 a3 v8 a6 0 h)
  else none)
  else
  (if inB a1 6 = true then
  (let v9 : Int64 := a4 + ((((gI h 85 (iN a1))).toInt64) * (((gI h 87 (iN a1))).toInt64))
  F_M_saved_78 N bk a1 a2 a3 v9 a6 0 h)
  else none))
  else none)
def F_M_saved_0 (N : Nat) (bk : (Int32 → Int32 → Int32 → Int64 → Int32 → MH → Option (Int32 × MH)) × (Int32 → Int32 → Int32 → Int64 → Int32 → Int32 → MH → Option (Int32 × MH))) (a1 : Int32) (a2 : Int32) (a3 : Int32) (h : MH) : Option (Int32 × MH) :=
  (f_M_isCell N a1 h).bind (fun x1 =>
  if x1.1 = 0 then
  ((f_M_refuse N 1 x1.2).bind (fun x2 =>
  some (x2.1, x2.2)))
  else
  ((f_M_isYear N a2 x1.2).bind (fun x3 =>
  if x3.1 = 0 then
  ((f_M_refuse N 1 x3.2).bind (fun x4 =>
  some (x4.1, x4.2)))
  else
  (if a3 < 0 then
  ((f_M_refuse N 1 x3.2).bind (fun x5 =>
  some (x5.1, x5.2)))
  else
  (if a3 ≤ 1 then
  (F_M_saved_36 N bk a1 a2 a3 0 0 x3.2)
  else
  ((f_M_refuse N 1 x3.2).bind (fun x6 =>
  some (x6.1, x6.2))))))))
def L_M_saved (N : Nat) : Nat → ((Int32 → Int32 → Int32 → Int64 → Int32 → MH → Option (Int32 × MH)) × (Int32 → Int32 → Int32 → Int64 → Int32 → Int32 → MH → Option (Int32 × MH)))
  | 0 => (fun _ _ _ _ _ _ => none, fun _ _ _ _ _ _ _ => none)
  | n + 1 => (F_M_saved_36 N (L_M_saved N n), F_M_saved_78 N (L_M_saved N n))
def f_M_saved (N : Nat) (a1 : Int32) (a2 : Int32) (a3 : Int32) (h : MH) : Option (Int32 × MH) := F_M_saved_0 N (L_M_saved N N) a1 a2 a3 h
def C_M_saved (N : Nat) : MC := (KDL, false, (fun _ => 0), jsB, (fun j => match Nat.beq j 168 with
    | true => w_M_refuse (f_M_refuse N)
    | false => match Nat.beq j 170 with
    | true => w_M_fraction (f_M_fraction N)
    | false => match Nat.beq j 206 with
    | true => w_M_isCell (f_M_isCell N)
    | false => match Nat.beq j 209 with
    | true => w_M_isYear (f_M_isYear N)
    | false => fun _ _ => none), (fun j => match Nat.beq j 262 with
    | true => w_Math_min_JJ (f_Math_min_JJ N)
    | false => fun _ _ => none), (fun _ _ _ => none), (fun _ _ _ => none))
def D_M_saved (N : Nat) (n pc : Nat) (lv : ML) (st : List MV) (h : MH) : Option (Int32 × MH) :=
  match Nat.beq pc 0 with
  | true => (match lk lv 0, lk lv 1, lk lv 2, lk lv 3, st with
    | some (.inr (.inr (0, 12, 68))), some (.inl a1), some (.inl a2), some (.inl a3), [] => F_M_saved_0 N (L_M_saved N n) a1 a2 a3 h
    | _, _, _, _, _ => none)
  | false => match Nat.beq pc 36 with
  | true => (match lk lv 0, lk lv 1, lk lv 2, lk lv 3, lk lv 4, lk lv 6, st with
    | some (.inr (.inr (0, 12, 68))), some (.inl a1), some (.inl a2), some (.inl a3), some (.inr (.inl a4)), some (.inl a6), [] => F_M_saved_36 N (L_M_saved N n) a1 a2 a3 a4 a6 h
    | _, _, _, _, _, _, _ => none)
  | false => match Nat.beq pc 78 with
  | true => (match lk lv 0, lk lv 1, lk lv 2, lk lv 3, lk lv 4, lk lv 6, lk lv 7, st with
    | some (.inr (.inr (0, 12, 68))), some (.inl a1), some (.inl a2), some (.inl a3), some (.inr (.inl a4)), some (.inl a6), some (.inl a7), [] => F_M_saved_78 N (L_M_saved N n) a1 a2 a3 a4 a6 a7 h
    | _, _, _, _, _, _, _, _ => none)
  | false => none
def B_M_saved (N : Nat) (n pc : Nat) (lv : ML) (st : List MV) (h : MH) : Option (Int32 × MH) :=
  match Nat.beq pc 36 with
  | true => (match lk lv 0, lk lv 1, lk lv 2, lk lv 3, lk lv 4, lk lv 6, st with
    | some (.inr (.inr (0, 12, 68))), some (.inl a1), some (.inl a2), some (.inl a3), some (.inr (.inl a4)), some (.inl a6), [] => ((L_M_saved N n).1) a1 a2 a3 a4 a6 h
    | _, _, _, _, _, _, _ => none)
  | false => match Nat.beq pc 78 with
  | true => (match lk lv 0, lk lv 1, lk lv 2, lk lv 3, lk lv 4, lk lv 6, lk lv 7, st with
    | some (.inr (.inr (0, 12, 68))), some (.inl a1), some (.inl a2), some (.inl a3), some (.inr (.inl a4)), some (.inl a6), some (.inl a7), [] => ((L_M_saved N n).2) a1 a2 a3 a4 a6 a7 h
    | _, _, _, _, _, _, _, _ => none)
  | false => none
set_option maxRecDepth 1000000 in
theorem E_M_saved_0 (N : Nat) (n : Nat) (a1 : Int32) (a2 : Int32) (a3 : Int32) (h : MH) : seg (C_M_saved N) 8 0 rI T_M_saved [0, 36, 78] (fun q lv st h => match Nat.ble 1 q with
    | true => D_M_saved N n q lv st h
    | false => B_M_saved N n q lv st h) 400 true 0 [(0, .inr (.inr (0, 12, 68))), (1, .inl a1), (2, .inl a2), (3, .inl a3)] [] h = F_M_saved_0 N (L_M_saved N n) a1 a2 a3 h := (rfl)
set_option maxRecDepth 1000000 in
theorem E_M_saved_36 (N : Nat) (n : Nat) (a1 : Int32) (a2 : Int32) (a3 : Int32) (a4 : Int64) (a6 : Int32) (h : MH) : seg (C_M_saved N) 8 0 rI T_M_saved [0, 36, 78] (fun q lv st h => match Nat.ble 37 q with
    | true => D_M_saved N n q lv st h
    | false => B_M_saved N n q lv st h) 400 true 36 [(0, .inr (.inr (0, 12, 68))), (1, .inl a1), (2, .inl a2), (3, .inl a3), (4, .inr (.inl a4)), (6, .inl a6)] [] h = F_M_saved_36 N (L_M_saved N n) a1 a2 a3 a4 a6 h := (rfl)
set_option maxRecDepth 1000000 in
theorem E_M_saved_78 (N : Nat) (n : Nat) (a1 : Int32) (a2 : Int32) (a3 : Int32) (a4 : Int64) (a6 : Int32) (a7 : Int32) (h : MH) : seg (C_M_saved N) 8 0 rI T_M_saved [0, 36, 78] (fun q lv st h => match Nat.ble 79 q with
    | true => D_M_saved N n q lv st h
    | false => B_M_saved N n q lv st h) 400 true 78 [(0, .inr (.inr (0, 12, 68))), (1, .inl a1), (2, .inl a2), (3, .inl a3), (4, .inr (.inl a4)), (6, .inl a6), (7, .inl a7)] [] h = F_M_saved_78 N (L_M_saved N n) a1 a2 a3 a4 a6 a7 h := (rfl)
set_option maxRecDepth 1000000 in
theorem chk_M_saved : chkT 12 false prog_14_method_88_code T_M_saved = true := by decide +kernel
theorem mc_M_saved : mC 250 = prog_14_method_88_code := by rfl
theorem mx_M_saved : mL 250 = 8 ∧ mR 250 = some .int ∧ mK 250 = 1 ∧ (mN 250).cls = cN 12 := by decide +kernel
theorem hD_M_saved (N : Nat) {r : Int32 × MH} : ∀ n pc lv st h, D_M_saved N n pc lv st h = some r → ∃ lv', (∀ q ∈ lv', q ∈ lv) ∧ seg (C_M_saved N) 8 0 rI T_M_saved [0, 36, 78] (fun q lv st h => match Nat.ble (pc + 1) q with
    | true => D_M_saved N n q lv st h
    | false => B_M_saved N n q lv st h) 400 true pc lv' st h = some r := by
  intro n pc lv st h hf
  unfold D_M_saved at hf
  split at hf
  · rename_i hb
    have hb := Nat.eq_of_beq_eq_true hb
    subst hb
    split at hf
    · rename_i y0 y1 y2 e0 e1 e2 e3
      exact ⟨_, (sub_cons e0 (sub_cons e1 (sub_cons e2 (sub_cons e3 sub_nil)))), (E_M_saved_0 N n _ _ _ h).trans hf⟩
    · cases hf
  · skip
    split at hf
    · rename_i hb
      have hb := Nat.eq_of_beq_eq_true hb
      subst hb
      split at hf
      · rename_i y0 y1 y2 y3 y4 e0 e1 e2 e3 e4 e5
        exact ⟨_, (sub_cons e0 (sub_cons e1 (sub_cons e2 (sub_cons e3 (sub_cons e4 (sub_cons e5 sub_nil)))))), (E_M_saved_36 N n _ _ _ _ _ h).trans hf⟩
      · cases hf
    · skip
      split at hf
      · rename_i hb
        have hb := Nat.eq_of_beq_eq_true hb
        subst hb
        split at hf
        · rename_i y0 y1 y2 y3 y4 y5 e0 e1 e2 e3 e4 e5 e6
          exact ⟨_, (sub_cons e0 (sub_cons e1 (sub_cons e2 (sub_cons e3 (sub_cons e4 (sub_cons e5 (sub_cons e6 sub_nil))))))), (E_M_saved_78 N n _ _ _ _ _ _ h).trans hf⟩
        · cases hf
      · skip
        cases hf
theorem hM_M_saved (N : Nat) {r : Int32 × MH} : ∀ n pc lv st h, D_M_saved N n pc lv st h = some r → pc < 154 := by
  intro n pc lv st h hf
  unfold D_M_saved at hf
  split at hf
  · rename_i hb
    rw [Nat.eq_of_beq_eq_true hb]
    decide
  · skip
    split at hf
    · rename_i hb
      rw [Nat.eq_of_beq_eq_true hb]
      decide
    · skip
      split at hf
      · rename_i hb
        rw [Nat.eq_of_beq_eq_true hb]
        decide
      · skip
        cases hf
theorem hB_M_saved (N : Nat) {r : Int32 × MH} : ∀ n pc lv st h, B_M_saved N n pc lv st h = some r → ∃ k, n = k + 1 ∧ D_M_saved N k pc lv st h = some r := by
  intro n pc lv st h hf
  unfold B_M_saved at hf
  split at hf
  · rename_i hb
    have hb := Nat.eq_of_beq_eq_true hb
    subst hb
    cases n with
    | zero =>
      split at hf
      · cases hf
      · cases hf
    | succ k =>
      refine ⟨k, rfl, ?_⟩
      exact hf
  · skip
    split at hf
    · rename_i hb
      have hb := Nat.eq_of_beq_eq_true hb
      subst hb
      cases n with
      | zero =>
        split at hf
        · cases hf
        · cases hf
      | succ k =>
        refine ⟨k, rfl, ?_⟩
        exact hf
    · skip
      cases hf
theorem s_M_saved {l : Launch} {E : EV} {N : Nat} {as : List MV} {h : MH} {r : Int32 × MH} (hf : w_M_saved (f_M_saved N) as h = some r) : SndM l E false 2 250 as h (some (.inl r.1)) r.2 := by
  unfold w_M_saved at hf
  split at hf
  · obtain ⟨m1, m2, m3, m4⟩ := mx_M_saved
    refine snd_of (C := C_M_saved N) (own := 12) (rz := 0) (lim := 115) rI_eq m2 m4 pl_250 (TB_in _ cw_250 rfl) ⟨(fun _ => ⟨_, _, _, _, _, _, rfl, rfl, by rw [m4]; rfl⟩), (fun z => by rw [m3] at z; cases z)⟩ (fun z => by cases z) KDL_take rfl rfl (fun z => by cases z) (fun z => by cases z) (fun _ => rfl) (by rw [m1]; exact Nat.le_of_ble_eq_true rfl)
      (fun j as h x z => by
      dsimp only [C_M_saved] at z
      cases hb : Nat.beq j 168 with
      | true =>
        have hb := Nat.eq_of_beq_eq_true hb
        subst hb
        exact ⟨0, by decide, (fun z => by cases z), s_M_refuse z⟩
      | false =>
        rw [hb] at z
        dsimp only at z
        cases hb : Nat.beq j 170 with
        | true =>
          have hb := Nat.eq_of_beq_eq_true hb
          subst hb
          exact ⟨1, by decide, (fun z => by cases z), s_M_fraction z⟩
        | false =>
          rw [hb] at z
          dsimp only at z
          cases hb : Nat.beq j 206 with
          | true =>
            have hb := Nat.eq_of_beq_eq_true hb
            subst hb
            exact ⟨0, by decide, (fun z => by cases z), s_M_isCell z⟩
          | false =>
            rw [hb] at z
            dsimp only at z
            cases hb : Nat.beq j 209 with
            | true =>
              have hb := Nat.eq_of_beq_eq_true hb
              subst hb
              exact ⟨0, by decide, (fun z => by cases z), s_M_isYear z⟩
            | false =>
              rw [hb] at z
              dsimp only at z
              cases z)
      (fun j as h x z => by
      dsimp only [C_M_saved] at z
      cases hb : Nat.beq j 262 with
      | true =>
        have hb := Nat.eq_of_beq_eq_true hb
        subst hb
        exact ⟨0, by decide, (fun z => by cases z), s_Math_min_JJ z⟩
      | false =>
        rw [hb] at z
        dsimp only at z
        cases z)
      (fun _ _ _ _ z => by cases z)
      (fun _ _ _ _ z => by cases z)
      (fun p e R s m args below meth c Q n0 F hret => ?_)
    rw [m1] at F hret ⊢
    rw [mc_M_saved] at F hret
    exact cuts_s (K := 400) (M := 154) (D := D_M_saved N) (B := B_M_saved N) F hret (chkT_ok chk_M_saved) (hM_M_saved N) (hB_M_saved N) (hD_M_saved N) N 0 _ _ _ hf
  · cases hf
def T_M_net : List (List (Option RW)) := [
  [some (.iload_n 1, 1, [1], 0, 0), some (.invokestatic 184, 3, [2, 171, 1, 0], 0, 0), none, none, some (.ifCond .eq 14, 3, [18], 0, 0), none, none, some (.iload_n 2, 1, [2], 0, 0), some (.ifCond .lt 10, 3, [18], 0, 0), none, none, some (.iload_n 2, 1, [2], 0, 0), some (.sipush 10000, 3, [], 10000, 0), none, none, some (.if_icmp .le 9, 3, [24], 0, 0), none, none, some (.aload_n 0, 1, [0], 0, 0), some (.iconst 1, 1, [], 1, 0), some (.invokevirtual 342, 3, [0, 168, 2, 0], 0, 0), none, none, some (.ireturn, 1, [], 0, 0), some (.aload_n 0, 1, [0], 0, 0), some (.getfield 17, 3, [12, 4, 2, 1, 4, 2], 0, 0), none, none, some (.iload_n 1, 1, [1], 0, 0), some (.iaload, 1, [], 0, 0), some (.iconst (-1), 1, [], (-1), 0), some (.if_icmp .ne 9, 3, [40], 0, 0)],
  [none, none, some (.aload_n 0, 1, [0], 0, 0), some (.iconst 2, 1, [], 2, 0), some (.invokevirtual 342, 3, [0, 168, 2, 0], 0, 0), none, none, some (.ireturn, 1, [], 0, 0), some (.aload_n 0, 1, [0], 0, 0), some (.getfield 17, 3, [12, 4, 2, 1, 4, 2], 0, 0), none, none, some (.iload_n 1, 1, [1], 0, 0), some (.iaload, 1, [], 0, 0), some (.aload_n 0, 1, [0], 0, 0), some (.getfield 351, 3, [12, 33, 0], 0, 0), none, none, some (.if_icmp .ge 9, 3, [59], 0, 0), none, none, some (.aload_n 0, 1, [0], 0, 0), some (.iconst 3, 1, [], 3, 0), some (.invokevirtual 342, 3, [0, 168, 2, 0], 0, 0), none, none, some (.ireturn, 1, [], 0, 0), some (.iconst 0, 1, [], 0, 0), some (.istore_n 3, 1, [3], 0, 0), some (.iload_n 3, 1, [3], 0, 0), some (.aload_n 0, 1, [0], 0, 0), some (.getfield 351, 3, [12, 33, 0], 0, 0)],
  [none, none, some (.if_icmp .ge 49, 3, [115], 0, 0), none, none, some (.aload_n 0, 1, [0], 0, 0), some (.getfield 20, 3, [12, 5, 2, 2, 240, 3], 0, 0), none, none, some (.bipush 60, 2, [], 60, 0), none, some (.iload_n 1, 1, [1], 0, 0), some (.imul, 1, [], 0, 0), some (.iload_n 3, 1, [3], 0, 0), some (.iadd, 1, [], 0, 0), some (.laload, 1, [], 0, 0), some (.lconst 0, 1, [], 0, 0), some (.lcmp, 1, [], 0, 0), some (.ifCond .lt 21, 3, [103], 0, 0), none, none, some (.aload_n 0, 1, [0], 0, 0), some (.getfield 20, 3, [12, 5, 2, 2, 240, 3], 0, 0), none, none, some (.bipush 60, 2, [], 60, 0), none, some (.iload_n 1, 1, [1], 0, 0), some (.imul, 1, [], 0, 0), some (.iload_n 3, 1, [3], 0, 0), some (.iadd, 1, [], 0, 0), some (.laload, 1, [], 0, 0)],
  [some (.ldc2_w 482, 3, [], 0, 1000), none, none, some (.lcmp, 1, [], 0, 0), some (.ifCond .le 9, 3, [109], 0, 0), none, none, some (.aload_n 0, 1, [0], 0, 0), some (.iconst 1, 1, [], 1, 0), some (.invokevirtual 342, 3, [0, 168, 2, 0], 0, 0), none, none, some (.ireturn, 1, [], 0, 0), some (.iinc 3 1, 3, [3], 1, 0), none, none, some (.goto (-51), 3, [61], 0, 0), none, none, some (.iconst 0, 1, [], 0, 0), some (.istore_n 3, 1, [3], 0, 0), some (.iconst 0, 1, [], 0, 0), some (.istore 4, 2, [4], 0, 0), none, some (.iload 4, 2, [4], 0, 0), none, some (.aload_n 0, 1, [0], 0, 0), some (.getfield 351, 3, [12, 33, 0], 0, 0), none, none, some (.if_icmp .ge 48, 3, [174], 0, 0), none],
  [none, some (.iconst 0, 1, [], 0, 0), some (.istore 5, 2, [5], 0, 0), none, some (.iload 5, 2, [5], 0, 0), none, some (.bipush 20, 2, [], 20, 0), none, some (.if_icmp .ge 32, 3, [168], 0, 0), none, none, some (.iload_n 3, 1, [3], 0, 0), some (.aload_n 0, 1, [0], 0, 0), some (.iload 4, 2, [4], 0, 0), none, some (.iload 5, 2, [5], 0, 0), none, some (.invokevirtual 381, 3, [0, 215, 3, 0], 0, 0), none, none, some (.iconst (-1), 1, [], (-1), 0), some (.if_icmp .eq 10, 3, [159], 0, 0), none, none, some (.iconst 1, 1, [], 1, 0), some (.iload 4, 2, [4], 0, 0), none, some (.ishl, 1, [], 0, 0), some (.goto 4, 3, [160], 0, 0), none, none, some (.iconst 0, 1, [], 0, 0)],
  [some (.ior, 1, [], 0, 0), some (.istore_n 3, 1, [3], 0, 0), some (.iinc 5 1, 3, [5], 1, 0), none, none, some (.goto (-33), 3, [132], 0, 0), none, none, some (.iinc 4 1, 3, [4], 1, 0), none, none, some (.goto (-51), 3, [120], 0, 0), none, none, some (.iconst (-1), 1, [], (-1), 0), some (.istore 4, 2, [4], 0, 0), none, some (.iconst (-1), 1, [], (-1), 0), some (.istore 5, 2, [5], 0, 0), none, some (.iconst 0, 1, [], 0, 0), some (.istore 6, 2, [6], 0, 0), none, some (.iconst 0, 1, [], 0, 0), some (.istore 7, 2, [7], 0, 0), none, some (.iload 7, 2, [7], 0, 0), none, some (.iconst 1, 1, [], 1, 0), some (.aload_n 0, 1, [0], 0, 0), some (.getfield 351, 3, [12, 33, 0], 0, 0), none],
  [none, some (.ishl, 1, [], 0, 0), some (.if_icmp .ge 130, 3, [324], 0, 0), none, none, some (.iload 7, 2, [7], 0, 0), none, some (.iload_n 3, 1, [3], 0, 0), some (.iand, 1, [], 0, 0), some (.ifCond .eq 6, 3, [207], 0, 0), none, none, some (.goto 114, 3, [318], 0, 0), none, none, some (.iconst 0, 1, [], 0, 0), some (.istore 8, 2, [8], 0, 0), none, some (.iconst 0, 1, [], 0, 0), some (.istore 9, 2, [9], 0, 0), none, some (.iload 9, 2, [9], 0, 0), none, some (.aload_n 0, 1, [0], 0, 0), some (.getfield 351, 3, [12, 33, 0], 0, 0), none, none, some (.if_icmp .ge 42, 3, [261], 0, 0), none, none, some (.iload 8, 2, [8], 0, 0), none],
  [some (.iload 7, 2, [7], 0, 0), none, some (.iload 9, 2, [9], 0, 0), none, some (.ishr, 1, [], 0, 0), some (.iconst 1, 1, [], 1, 0), some (.iand, 1, [], 0, 0), some (.iconst 1, 1, [], 1, 0), some (.if_icmp .ne 19, 3, [251], 0, 0), none, none, some (.aload_n 0, 1, [0], 0, 0), some (.getfield 20, 3, [12, 5, 2, 2, 240, 3], 0, 0), none, none, some (.bipush 60, 2, [], 60, 0), none, some (.iload_n 1, 1, [1], 0, 0), some (.imul, 1, [], 0, 0), some (.iload 9, 2, [9], 0, 0), none, some (.iadd, 1, [], 0, 0), some (.laload, 1, [], 0, 0), some (.l2i, 1, [], 0, 0), some (.goto 4, 3, [252], 0, 0), none, none, some (.iconst 0, 1, [], 0, 0), some (.iadd, 1, [], 0, 0), some (.istore 8, 2, [8], 0, 0), none, some (.iinc 9 1, 3, [9], 1, 0)],
  [none, none, some (.goto (-45), 3, [213], 0, 0), none, none, some (.iload 8, 2, [8], 0, 0), none, some (.iload_n 2, 1, [2], 0, 0), some (.if_icmp .le 6, 3, [270], 0, 0), none, none, some (.goto 51, 3, [318], 0, 0), none, none, some (.aload_n 0, 1, [0], 0, 0), some (.iload_n 3, 1, [3], 0, 0), some (.iload 7, 2, [7], 0, 0), none, some (.ior, 1, [], 0, 0), some (.bipush 63, 2, [], 63, 0), none, some (.invokevirtual 474, 3, [0, 245, 3, 0], 0, 0), none, none, some (.istore 9, 2, [9], 0, 0), none, some (.iload 9, 2, [9], 0, 0), none, some (.iload 5, 2, [5], 0, 0), none, some (.if_icmp .lt 32, 3, [318], 0, 0), none],
  [none, some (.iload 9, 2, [9], 0, 0), none, some (.iload 5, 2, [5], 0, 0), none, some (.if_icmp .ne 13, 3, [306], 0, 0), none, none, some (.iload 8, 2, [8], 0, 0), none, some (.iload 6, 2, [6], 0, 0), none, some (.if_icmp .lt 6, 3, [306], 0, 0), none, none, some (.goto 15, 3, [318], 0, 0), none, none, some (.iload 7, 2, [7], 0, 0), none, some (.istore 4, 2, [4], 0, 0), none, some (.iload 9, 2, [9], 0, 0), none, some (.istore 5, 2, [5], 0, 0), none, some (.iload 8, 2, [8], 0, 0), none, some (.istore 6, 2, [6], 0, 0), none, some (.iinc 7 1, 3, [7], 1, 0), none],
  [none, some (.goto (-135), 3, [186], 0, 0), none, none, some (.aload_n 0, 1, [0], 0, 0), some (.iload 4, 2, [4], 0, 0), none, some (.putfield 162, 3, [12, 79, 0], 0, 0), none, none, some (.aload_n 0, 1, [0], 0, 0), some (.iload 6, 2, [6], 0, 0), none, some (.putfield 484, 3, [12, 80, 0], 0, 0), none, none, some (.aload_n 0, 1, [0], 0, 0), some (.iload 5, 2, [5], 0, 0), none, some (.invokevirtual 180, 3, [0, 169, 2, 0], 0, 0), none, none, some (.ireturn, 1, [], 0, 0)]]
def F_M_net_306 (N : Nat) (bk : (Int32 → Int32 → Int32 → MH → Option (Int32 × MH)) × (Int32 → Int32 → Int32 → Int32 → MH → Option (Int32 × MH)) × (Int32 → Int32 → Int32 → Int32 → Int32 → MH → Option (Int32 × MH)) × (Int32 → Int32 → Int32 → Int32 → Int32 → Int32 → Int32 → MH → Option (Int32 × MH)) × (Int32 → Int32 → Int32 → Int32 → Int32 → Int32 → Int32 → Int32 → Int32 → MH → Option (Int32 × MH))) (a1 : Int32) (a2 : Int32) (a3 : Int32) (a7 : Int32) (a8 : Int32) (a9 : Int32) (h : MH) : Option (Int32 × MH) :=
  let v28 : Int32 := a7 + 1
  (bk.2.2.2.1) a1 a2 a3 a7 a9 a8 v28 h
def F_M_net_213 (N : Nat) (bk : (Int32 → Int32 → Int32 → MH → Option (Int32 × MH)) × (Int32 → Int32 → Int32 → Int32 → MH → Option (Int32 × MH)) × (Int32 → Int32 → Int32 → Int32 → Int32 → MH → Option (Int32 × MH)) × (Int32 → Int32 → Int32 → Int32 → Int32 → Int32 → Int32 → MH → Option (Int32 × MH)) × (Int32 → Int32 → Int32 → Int32 → Int32 → Int32 → Int32 → Int32 → Int32 → MH → Option (Int32 × MH))) (a1 : Int32) (a2 : Int32) (a3 : Int32) (a4 : Int32) (a5 : Int32) (a6 : Int32) (a7 : Int32) (a8 : Int32) (a9 : Int32) (h : MH) : Option (Int32 × MH) :=
  if (gI h 68 33) ≤ a9 then
  (if a8 ≤ a2 then
  ((f_M_rankOf N (a3 ||| a7) 63 h).bind (fun x20 =>
  if x20.1 < a5 then
  (let v21 : Int32 := a7 + 1
  (bk.2.2.2.1) a1 a2 a3 a4 a5 a6 v21 x20.2)
  else
  (if x20.1 = a5 then
  (if a8 < a6 then
  (F_M_net_306 N bk a1 a2 a3 a7 a8 x20.1 x20.2)
  else
  (let v22 : Int32 := a7 + 1
  (bk.2.2.2.1) a1 a2 a3 a4 a5 a6 v22 x20.2))
  else
  (F_M_net_306 N bk a1 a2 a3 a7 a8 x20.1 x20.2))))
  else
  (let v23 : Int32 := a7 + 1
  (bk.2.2.2.1) a1 a2 a3 a4 a5 a6 v23 h))
  else
  (if ((a7 >>> (a9 &&& 31)) &&& 1) = 1 then
  (if inB ((60 * a1) + a9) 240 = true then
  (let v24 : Int32 := a8 + (Int64.toInt32 (gJ h 71 (iN ((60 * a1) + a9))))
  let v25 : Int32 := a9 + 1
  (bk.2.2.2.2) a1 a2 a3 a4 a5 a6 a7 v24 v25 h)
  else none)
  else
  (let v26 : Int32 := a8 + 0
  let v27 : Int32 := a9 + 1
  (bk.2.2.2.2) a1 a2 a3 a4 a5 a6 a7 v26 v27 h))
def F_M_net_186 (N : Nat) (bk : (Int32 → Int32 → Int32 → MH → Option (Int32 × MH)) × (Int32 → Int32 → Int32 → Int32 → MH → Option (Int32 × MH)) × (Int32 → Int32 → Int32 → Int32 → Int32 → MH → Option (Int32 × MH)) × (Int32 → Int32 → Int32 → Int32 → Int32 → Int32 → Int32 → MH → Option (Int32 × MH)) × (Int32 → Int32 → Int32 → Int32 → Int32 → Int32 → Int32 → Int32 → Int32 → MH → Option (Int32 × MH))) (a1 : Int32) (a2 : Int32) (a3 : Int32) (a4 : Int32) (a5 : Int32) (a6 : Int32) (a7 : Int32) (h : MH) : Option (Int32 × MH) :=
  if ((1 : Int32) <<< ((gI h 68 33) &&& 31)) ≤ a7 then
  (let h16 : MH := sI h 68 79 a4
  let h17 : MH := sI h16 68 80 a6
  (f_M_gives N a5 h17).bind (fun x18 =>
  some (x18.1, x18.2)))
  else
  (if (a7 &&& a3) = 0 then
  (F_M_net_213 N bk a1 a2 a3 a4 a5 a6 a7 0 0 h)
  else
  (let v19 : Int32 := a7 + 1
  (bk.2.2.2.1) a1 a2 a3 a4 a5 a6 v19 h))
def F_M_net_132 (N : Nat) (bk : (Int32 → Int32 → Int32 → MH → Option (Int32 × MH)) × (Int32 → Int32 → Int32 → Int32 → MH → Option (Int32 × MH)) × (Int32 → Int32 → Int32 → Int32 → Int32 → MH → Option (Int32 × MH)) × (Int32 → Int32 → Int32 → Int32 → Int32 → Int32 → Int32 → MH → Option (Int32 × MH)) × (Int32 → Int32 → Int32 → Int32 → Int32 → Int32 → Int32 → Int32 → Int32 → MH → Option (Int32 × MH))) (a1 : Int32) (a2 : Int32) (a3 : Int32) (a4 : Int32) (a5 : Int32) (h : MH) : Option (Int32 × MH) :=
  if 20 ≤ a5 then
  (let v10 : Int32 := a4 + 1
  (bk.2.1) a1 a2 a3 v10 h)
  else
  ((f_M_rowOf N a4 a5 h).bind (fun x11 =>
  if x11.1 = ((-1)) then
  (let v12 : Int32 := a3 ||| 0
  let v13 : Int32 := a5 + 1
  (bk.2.2.1) a1 a2 v12 a4 v13 x11.2)
  else
  (let v14 : Int32 := a3 ||| ((1 : Int32) <<< (a4 &&& 31))
  let v15 : Int32 := a5 + 1
  (bk.2.2.1) a1 a2 v14 a4 v15 x11.2)))
def F_M_net_120 (N : Nat) (bk : (Int32 → Int32 → Int32 → MH → Option (Int32 × MH)) × (Int32 → Int32 → Int32 → Int32 → MH → Option (Int32 × MH)) × (Int32 → Int32 → Int32 → Int32 → Int32 → MH → Option (Int32 × MH)) × (Int32 → Int32 → Int32 → Int32 → Int32 → Int32 → Int32 → MH → Option (Int32 × MH)) × (Int32 → Int32 → Int32 → Int32 → Int32 → Int32 → Int32 → Int32 → Int32 → MH → Option (Int32 × MH))) (a1 : Int32) (a2 : Int32) (a3 : Int32) (a4 : Int32) (h : MH) : Option (Int32 × MH) :=
  if (gI h 68 33) ≤ a4 then
  (F_M_net_186 N bk a1 a2 a3 ((-1)) ((-1)) 0 0 h)
  else
  (F_M_net_132 N bk a1 a2 a3 a4 0 h)
def F_M_net_61 (N : Nat) (bk : (Int32 → Int32 → Int32 → MH → Option (Int32 × MH)) × (Int32 → Int32 → Int32 → Int32 → MH → Option (Int32 × MH)) × (Int32 → Int32 → Int32 → Int32 → Int32 → MH → Option (Int32 × MH)) × (Int32 → Int32 → Int32 → Int32 → Int32 → Int32 → Int32 → MH → Option (Int32 × MH)) × (Int32 → Int32 → Int32 → Int32 → Int32 → Int32 → Int32 → Int32 → Int32 → MH → Option (Int32 × MH))) (a1 : Int32) (a2 : Int32) (a3 : Int32) (h : MH) : Option (Int32 × MH) :=
  if (gI h 68 33) ≤ a3 then
  (F_M_net_120 N bk a1 a2 0 0 h)
  else
  (if inB ((60 * a1) + a3) 240 = true then
  (if (lg_cmp (gJ h 71 (iN ((60 * a1) + a3))) 0) < 0 then
  ((f_M_refuse N 1 h).bind (fun x7 =>
  some (x7.1, x7.2)))
  else
  (if inB ((60 * a1) + a3) 240 = true then
  (if (lg_cmp (gJ h 71 (iN ((60 * a1) + a3))) 1000) ≤ 0 then
  (let v8 : Int32 := a3 + 1
  (bk.1) a1 a2 v8 h)
  else
  ((f_M_refuse N 1 h).bind (fun x9 =>
  some (x9.1, x9.2))))
  else none))
  else none)
def F_M_net_0 (N : Nat) (bk : (Int32 → Int32 → Int32 → MH → Option (Int32 × MH)) × (Int32 → Int32 → Int32 → Int32 → MH → Option (Int32 × MH)) × (Int32 → Int32 → Int32 → Int32 → Int32 → MH → Option (Int32 × MH)) × (Int32 → Int32 → Int32 → Int32 → Int32 → Int32 → Int32 → MH → Option (Int32 × MH)) × (Int32 → Int32 → Int32 → Int32 → Int32 → Int32 → Int32 → Int32 → Int32 → MH → Option (Int32 × MH))) (a1 : Int32) (a2 : Int32) (h : MH) : Option (Int32 × MH) :=
  (f_M_isTray N a1 h).bind (fun x1 =>
  if x1.1 = 0 then
  ((f_M_refuse N 1 x1.2).bind (fun x2 =>
  some (x2.1, x2.2)))
  else
  (if a2 < 0 then
  ((f_M_refuse N 1 x1.2).bind (fun x3 =>
  some (x3.1, x3.2)))
  else
  (if a2 ≤ 10000 then
  (if inB a1 4 = true then
  (if (gI x1.2 70 (iN a1)) = ((-1)) then
  ((f_M_refuse N 2 x1.2).bind (fun x4 =>
  some (x4.1, x4.2)))
  else
  (if inB a1 4 = true then
  (if (gI x1.2 68 33) ≤ (gI x1.2 70 (iN a1)) then
  (F_M_net_61 N bk a1 a2 0 x1.2)
  else
  ((f_M_refuse N 3 x1.2).bind (fun x5 =>
  some (x5.1, x5.2))))
  else none))
  else none)
  else
  ((f_M_refuse N 1 x1.2).bind (fun x6 =>
  some (x6.1, x6.2))))))
def L_M_net (N : Nat) : Nat → ((Int32 → Int32 → Int32 → MH → Option (Int32 × MH)) × (Int32 → Int32 → Int32 → Int32 → MH → Option (Int32 × MH)) × (Int32 → Int32 → Int32 → Int32 → Int32 → MH → Option (Int32 × MH)) × (Int32 → Int32 → Int32 → Int32 → Int32 → Int32 → Int32 → MH → Option (Int32 × MH)) × (Int32 → Int32 → Int32 → Int32 → Int32 → Int32 → Int32 → Int32 → Int32 → MH → Option (Int32 × MH)))
  | 0 => (fun _ _ _ _ => none, fun _ _ _ _ _ => none, fun _ _ _ _ _ _ => none, fun _ _ _ _ _ _ _ _ => none, fun _ _ _ _ _ _ _ _ _ _ => none)
  | n + 1 => (F_M_net_61 N (L_M_net N n), F_M_net_120 N (L_M_net N n), F_M_net_132 N (L_M_net N n), F_M_net_186 N (L_M_net N n), F_M_net_213 N (L_M_net N n))
def f_M_net (N : Nat) (a1 : Int32) (a2 : Int32) (h : MH) : Option (Int32 × MH) := F_M_net_0 N (L_M_net N N) a1 a2 h
def C_M_net (N : Nat) : MC := (KDL, false, (fun _ => 0), jsB, (fun j => match Nat.beq j 168 with
    | true => w_M_refuse (f_M_refuse N)
    | false => match Nat.beq j 169 with
    | true => w_M_gives (f_M_gives N)
    | false => match Nat.beq j 171 with
    | true => w_M_isTray (f_M_isTray N)
    | false => match Nat.beq j 215 with
    | true => w_M_rowOf (f_M_rowOf N)
    | false => match Nat.beq j 245 with
    | true => w_M_rankOf (f_M_rankOf N)
    | false => fun _ _ => none), (fun _ _ _ => none), (fun _ _ _ => none), (fun _ _ _ => none))
def D_M_net (N : Nat) (n pc : Nat) (lv : ML) (st : List MV) (h : MH) : Option (Int32 × MH) :=
  match Nat.beq pc 0 with
  | true => (match lk lv 0, lk lv 1, lk lv 2, st with
    | some (.inr (.inr (0, 12, 68))), some (.inl a1), some (.inl a2), [] => F_M_net_0 N (L_M_net N n) a1 a2 h
    | _, _, _, _ => none)
  | false => match Nat.beq pc 61 with
  | true => (match lk lv 0, lk lv 1, lk lv 2, lk lv 3, st with
    | some (.inr (.inr (0, 12, 68))), some (.inl a1), some (.inl a2), some (.inl a3), [] => F_M_net_61 N (L_M_net N n) a1 a2 a3 h
    | _, _, _, _, _ => none)
  | false => match Nat.beq pc 120 with
  | true => (match lk lv 0, lk lv 1, lk lv 2, lk lv 3, lk lv 4, st with
    | some (.inr (.inr (0, 12, 68))), some (.inl a1), some (.inl a2), some (.inl a3), some (.inl a4), [] => F_M_net_120 N (L_M_net N n) a1 a2 a3 a4 h
    | _, _, _, _, _, _ => none)
  | false => match Nat.beq pc 132 with
  | true => (match lk lv 0, lk lv 1, lk lv 2, lk lv 3, lk lv 4, lk lv 5, st with
    | some (.inr (.inr (0, 12, 68))), some (.inl a1), some (.inl a2), some (.inl a3), some (.inl a4), some (.inl a5), [] => F_M_net_132 N (L_M_net N n) a1 a2 a3 a4 a5 h
    | _, _, _, _, _, _, _ => none)
  | false => match Nat.beq pc 186 with
  | true => (match lk lv 0, lk lv 1, lk lv 2, lk lv 3, lk lv 4, lk lv 5, lk lv 6, lk lv 7, st with
    | some (.inr (.inr (0, 12, 68))), some (.inl a1), some (.inl a2), some (.inl a3), some (.inl a4), some (.inl a5), some (.inl a6), some (.inl a7), [] => F_M_net_186 N (L_M_net N n) a1 a2 a3 a4 a5 a6 a7 h
    | _, _, _, _, _, _, _, _, _ => none)
  | false => match Nat.beq pc 213 with
  | true => (match lk lv 0, lk lv 1, lk lv 2, lk lv 3, lk lv 4, lk lv 5, lk lv 6, lk lv 7, lk lv 8, lk lv 9, st with
    | some (.inr (.inr (0, 12, 68))), some (.inl a1), some (.inl a2), some (.inl a3), some (.inl a4), some (.inl a5), some (.inl a6), some (.inl a7), some (.inl a8), some (.inl a9), [] => F_M_net_213 N (L_M_net N n) a1 a2 a3 a4 a5 a6 a7 a8 a9 h
    | _, _, _, _, _, _, _, _, _, _, _ => none)
  | false => match Nat.beq pc 306 with
  | true => (match lk lv 0, lk lv 1, lk lv 2, lk lv 3, lk lv 7, lk lv 8, lk lv 9, st with
    | some (.inr (.inr (0, 12, 68))), some (.inl a1), some (.inl a2), some (.inl a3), some (.inl a7), some (.inl a8), some (.inl a9), [] => F_M_net_306 N (L_M_net N n) a1 a2 a3 a7 a8 a9 h
    | _, _, _, _, _, _, _, _ => none)
  | false => none
def B_M_net (N : Nat) (n pc : Nat) (lv : ML) (st : List MV) (h : MH) : Option (Int32 × MH) :=
  match Nat.beq pc 61 with
  | true => (match lk lv 0, lk lv 1, lk lv 2, lk lv 3, st with
    | some (.inr (.inr (0, 12, 68))), some (.inl a1), some (.inl a2), some (.inl a3), [] => ((L_M_net N n).1) a1 a2 a3 h
    | _, _, _, _, _ => none)
  | false => match Nat.beq pc 120 with
  | true => (match lk lv 0, lk lv 1, lk lv 2, lk lv 3, lk lv 4, st with
    | some (.inr (.inr (0, 12, 68))), some (.inl a1), some (.inl a2), some (.inl a3), some (.inl a4), [] => ((L_M_net N n).2.1) a1 a2 a3 a4 h
    | _, _, _, _, _, _ => none)
  | false => match Nat.beq pc 132 with
  | true => (match lk lv 0, lk lv 1, lk lv 2, lk lv 3, lk lv 4, lk lv 5, st with
    | some (.inr (.inr (0, 12, 68))), some (.inl a1), some (.inl a2), some (.inl a3), some (.inl a4), some (.inl a5), [] => ((L_M_net N n).2.2.1) a1 a2 a3 a4 a5 h
    | _, _, _, _, _, _, _ => none)
  | false => match Nat.beq pc 186 with
  | true => (match lk lv 0, lk lv 1, lk lv 2, lk lv 3, lk lv 4, lk lv 5, lk lv 6, lk lv 7, st with
    | some (.inr (.inr (0, 12, 68))), some (.inl a1), some (.inl a2), some (.inl a3), some (.inl a4), some (.inl a5), some (.inl a6), some (.inl a7), [] => ((L_M_net N n).2.2.2.1) a1 a2 a3 a4 a5 a6 a7 h
    | _, _, _, _, _, _, _, _, _ => none)
  | false => match Nat.beq pc 213 with
  | true => (match lk lv 0, lk lv 1, lk lv 2, lk lv 3, lk lv 4, lk lv 5, lk lv 6, lk lv 7, lk lv 8, lk lv 9, st with
    | some (.inr (.inr (0, 12, 68))), some (.inl a1), some (.inl a2), some (.inl a3), some (.inl a4), some (.inl a5), some (.inl a6), some (.inl a7), some (.inl a8), some (.inl a9), [] => ((L_M_net N n).2.2.2.2) a1 a2 a3 a4 a5 a6 a7 a8 a9 h
    | _, _, _, _, _, _, _, _, _, _, _ => none)
  | false => none
set_option maxRecDepth 1000000 in
theorem E_M_net_0 (N : Nat) (n : Nat) (a1 : Int32) (a2 : Int32) (h : MH) : seg (C_M_net N) 10 0 rI T_M_net [0, 61, 120, 132, 186, 213, 306] (fun q lv st h => match Nat.ble 1 q with
    | true => D_M_net N n q lv st h
    | false => B_M_net N n q lv st h) 400 true 0 [(0, .inr (.inr (0, 12, 68))), (1, .inl a1), (2, .inl a2)] [] h = F_M_net_0 N (L_M_net N n) a1 a2 h := (rfl)
set_option maxRecDepth 1000000 in
theorem E_M_net_61 (N : Nat) (n : Nat) (a1 : Int32) (a2 : Int32) (a3 : Int32) (h : MH) : seg (C_M_net N) 10 0 rI T_M_net [0, 61, 120, 132, 186, 213, 306] (fun q lv st h => match Nat.ble 62 q with
    | true => D_M_net N n q lv st h
    | false => B_M_net N n q lv st h) 400 true 61 [(0, .inr (.inr (0, 12, 68))), (1, .inl a1), (2, .inl a2), (3, .inl a3)] [] h = F_M_net_61 N (L_M_net N n) a1 a2 a3 h := (rfl)
set_option maxRecDepth 1000000 in
theorem E_M_net_120 (N : Nat) (n : Nat) (a1 : Int32) (a2 : Int32) (a3 : Int32) (a4 : Int32) (h : MH) : seg (C_M_net N) 10 0 rI T_M_net [0, 61, 120, 132, 186, 213, 306] (fun q lv st h => match Nat.ble 121 q with
    | true => D_M_net N n q lv st h
    | false => B_M_net N n q lv st h) 400 true 120 [(0, .inr (.inr (0, 12, 68))), (1, .inl a1), (2, .inl a2), (3, .inl a3), (4, .inl a4)] [] h = F_M_net_120 N (L_M_net N n) a1 a2 a3 a4 h := (rfl)
set_option maxRecDepth 1000000 in
theorem E_M_net_132 (N : Nat) (n : Nat) (a1 : Int32) (a2 : Int32) (a3 : Int32) (a4 : Int32) (a5 : Int32) (h : MH) : seg (C_M_net N) 10 0 rI T_M_net [0, 61, 120, 132, 186, 213, 306] (fun q lv st h => match Nat.ble 133 q with
    | true => D_M_net N n q lv st h
    | false => B_M_net N n q lv st h) 400 true 132 [(0, .inr (.inr (0, 12, 68))), (1, .inl a1), (2, .inl a2), (3, .inl a3), (4, .inl a4), (5, .inl a5)] [] h = F_M_net_132 N (L_M_net N n) a1 a2 a3 a4 a5 h := (rfl)
set_option maxRecDepth 1000000 in
theorem E_M_net_186 (N : Nat) (n : Nat) (a1 : Int32) (a2 : Int32) (a3 : Int32) (a4 : Int32) (a5 : Int32) (a6 : Int32) (a7 : Int32) (h : MH) : seg (C_M_net N) 10 0 rI T_M_net [0, 61, 120, 132, 186, 213, 306] (fun q lv st h => match Nat.ble 187 q with
    | true => D_M_net N n q lv st h
    | false => B_M_net N n q lv st h) 400 true 186 [(0, .inr (.inr (0, 12, 68))), (1, .inl a1), (2, .inl a2), (3, .inl a3), (4, .inl a4), (5, .inl a5), (6, .inl a6), (7, .inl a7)] [] h = F_M_net_186 N (L_M_net N n) a1 a2 a3 a4 a5 a6 a7 h := (rfl)
set_option maxRecDepth 1000000 in
theorem E_M_net_213 (N : Nat) (n : Nat) (a1 : Int32) (a2 : Int32) (a3 : Int32) (a4 : Int32) (a5 : Int32) (a6 : Int32) (a7 : Int32) (a8 : Int32) (a9 : Int32) (h : MH) : seg (C_M_net N) 10 0 rI T_M_net [0, 61, 120, 132, 186, 213, 306] (fun q lv st h => match Nat.ble 214 q with
    | true => D_M_net N n q lv st h
    | false => B_M_net N n q lv st h) 400 true 213 [(0, .inr (.inr (0, 12, 68))), (1, .inl a1), (2, .inl a2), (3, .inl a3), (4, .inl a4), (5, .inl a5), (6, .inl a6), (7, .inl a7), (8, .inl a8), (9, .inl a9)] [] h = F_M_net_213 N (L_M_net N n) a1 a2 a3 a4 a5 a6 a7 a8 a9 h := (rfl)
set_option maxRecDepth 1000000 in
theorem E_M_net_306 (N : Nat) (n : Nat) (a1 : Int32) (a2 : Int32) (a3 : Int32) (a7 : Int32) (a8 : Int32) (a9 : Int32) (h : MH) : seg (C_M_net N) 10 0 rI T_M_net [0, 61, 120, 132, 186, 213, 306] (fun q lv st h => match Nat.ble 307 q with
    | true => D_M_net N n q lv st h
    | false => B_M_net N n q lv st h) 400 true 306 [(0, .inr (.inr (0, 12, 68))), (1, .inl a1), (2, .inl a2), (3, .inl a3), (7, .inl a7), (8, .inl a8), (9, .inl a9)] [] h = F_M_net_306 N (L_M_net N n) a1 a2 a3 a7 a8 a9 h := (rfl)
set_option maxRecDepth 1000000 in
theorem chk_M_net : chkT 12 false prog_14_method_89_code T_M_net = true := by decide +kernel
theorem mc_M_net : mC 251 = prog_14_method_89_code := by rfl
theorem mx_M_net : mL 251 = 10 ∧ mR 251 = some .int ∧ mK 251 = 1 ∧ (mN 251).cls = cN 12 := by decide +kernel
theorem hD_M_net (N : Nat) {r : Int32 × MH} : ∀ n pc lv st h, D_M_net N n pc lv st h = some r → ∃ lv', (∀ q ∈ lv', q ∈ lv) ∧ seg (C_M_net N) 10 0 rI T_M_net [0, 61, 120, 132, 186, 213, 306] (fun q lv st h => match Nat.ble (pc + 1) q with
    | true => D_M_net N n q lv st h
    | false => B_M_net N n q lv st h) 400 true pc lv' st h = some r := by
  intro n pc lv st h hf
  unfold D_M_net at hf
  split at hf
  · rename_i hb
    have hb := Nat.eq_of_beq_eq_true hb
    subst hb
    split at hf
    · rename_i y0 y1 e0 e1 e2
      exact ⟨_, (sub_cons e0 (sub_cons e1 (sub_cons e2 sub_nil))), (E_M_net_0 N n _ _ h).trans hf⟩
    · cases hf
  · skip
    split at hf
    · rename_i hb
      have hb := Nat.eq_of_beq_eq_true hb
      subst hb
      split at hf
      · rename_i y0 y1 y2 e0 e1 e2 e3
        exact ⟨_, (sub_cons e0 (sub_cons e1 (sub_cons e2 (sub_cons e3 sub_nil)))), (E_M_net_61 N n _ _ _ h).trans hf⟩
      · cases hf
    · skip
      split at hf
      · rename_i hb
        have hb := Nat.eq_of_beq_eq_true hb
        subst hb
        split at hf
        · rename_i y0 y1 y2 y3 e0 e1 e2 e3 e4
          exact ⟨_, (sub_cons e0 (sub_cons e1 (sub_cons e2 (sub_cons e3 (sub_cons e4 sub_nil))))), (E_M_net_120 N n _ _ _ _ h).trans hf⟩
        · cases hf
      · skip
        split at hf
        · rename_i hb
          have hb := Nat.eq_of_beq_eq_true hb
          subst hb
          split at hf
          · rename_i y0 y1 y2 y3 y4 e0 e1 e2 e3 e4 e5
            exact ⟨_, (sub_cons e0 (sub_cons e1 (sub_cons e2 (sub_cons e3 (sub_cons e4 (sub_cons e5 sub_nil)))))), (E_M_net_132 N n _ _ _ _ _ h).trans hf⟩
          · cases hf
        · skip
          split at hf
          · rename_i hb
            have hb := Nat.eq_of_beq_eq_true hb
            subst hb
            split at hf
            · rename_i y0 y1 y2 y3 y4 y5 y6 e0 e1 e2 e3 e4 e5 e6 e7
              exact ⟨_, (sub_cons e0 (sub_cons e1 (sub_cons e2 (sub_cons e3 (sub_cons e4 (sub_cons e5 (sub_cons e6 (sub_cons e7 sub_nil)))))))), (E_M_net_186 N n _ _ _ _ _ _ _ h).trans hf⟩
            · cases hf
          · skip
            split at hf
            · rename_i hb
              have hb := Nat.eq_of_beq_eq_true hb
              subst hb
              split at hf
              · rename_i y0 y1 y2 y3 y4 y5 y6 y7 y8 e0 e1 e2 e3 e4 e5 e6 e7 e8 e9
                exact ⟨_, (sub_cons e0 (sub_cons e1 (sub_cons e2 (sub_cons e3 (sub_cons e4 (sub_cons e5 (sub_cons e6 (sub_cons e7 (sub_cons e8 (sub_cons e9 sub_nil)))))))))), (E_M_net_213 N n _ _ _ _ _ _ _ _ _ h).trans hf⟩
              · cases hf
            · skip
              split at hf
              · rename_i hb
                have hb := Nat.eq_of_beq_eq_true hb
                subst hb
                split at hf
                · rename_i y0 y1 y2 y3 y4 y5 e0 e1 e2 e3 e4 e5 e6
                  exact ⟨_, (sub_cons e0 (sub_cons e1 (sub_cons e2 (sub_cons e3 (sub_cons e4 (sub_cons e5 (sub_cons e6 sub_nil))))))), (E_M_net_306 N n _ _ _ _ _ _ h).trans hf⟩
                · cases hf
              · skip
                cases hf
theorem hM_M_net (N : Nat) {r : Int32 × MH} : ∀ n pc lv st h, D_M_net N n pc lv st h = some r → pc < 343 := by
  intro n pc lv st h hf
  unfold D_M_net at hf
  split at hf
  · rename_i hb
    rw [Nat.eq_of_beq_eq_true hb]
    decide
  · skip
    split at hf
    · rename_i hb
      rw [Nat.eq_of_beq_eq_true hb]
      decide
    · skip
      split at hf
      · rename_i hb
        rw [Nat.eq_of_beq_eq_true hb]
        decide
      · skip
        split at hf
        · rename_i hb
          rw [Nat.eq_of_beq_eq_true hb]
          decide
        · skip
          split at hf
          · rename_i hb
            rw [Nat.eq_of_beq_eq_true hb]
            decide
          · skip
            split at hf
            · rename_i hb
              rw [Nat.eq_of_beq_eq_true hb]
              decide
            · skip
              split at hf
              · rename_i hb
                rw [Nat.eq_of_beq_eq_true hb]
                decide
              · skip
                cases hf
theorem hB_M_net (N : Nat) {r : Int32 × MH} : ∀ n pc lv st h, B_M_net N n pc lv st h = some r → ∃ k, n = k + 1 ∧ D_M_net N k pc lv st h = some r := by
  intro n pc lv st h hf
  unfold B_M_net at hf
  split at hf
  · rename_i hb
    have hb := Nat.eq_of_beq_eq_true hb
    subst hb
    cases n with
    | zero =>
      split at hf
      · cases hf
      · cases hf
    | succ k =>
      refine ⟨k, rfl, ?_⟩
      exact hf
  · skip
    split at hf
    · rename_i hb
      have hb := Nat.eq_of_beq_eq_true hb
      subst hb
      cases n with
      | zero =>
        split at hf
        · cases hf
        · cases hf
      | succ k =>
        refine ⟨k, rfl, ?_⟩
        exact hf
    · skip
      split at hf
      · rename_i hb
        have hb := Nat.eq_of_beq_eq_true hb
        subst hb
        cases n with
        | zero =>
          split at hf
          · cases hf
          · cases hf
        | succ k =>
          refine ⟨k, rfl, ?_⟩
          exact hf
      · skip
        split at hf
        · rename_i hb
          have hb := Nat.eq_of_beq_eq_true hb
          subst hb
          cases n with
          | zero =>
            split at hf
            · cases hf
            · cases hf
          | succ k =>
            refine ⟨k, rfl, ?_⟩
            exact hf
        · skip
          split at hf
          · rename_i hb
            have hb := Nat.eq_of_beq_eq_true hb
            subst hb
            cases n with
            | zero =>
              split at hf
              · cases hf
              · cases hf
            | succ k =>
              refine ⟨k, rfl, ?_⟩
              exact hf
          · skip
            cases hf
theorem s_M_net {l : Launch} {E : EV} {N : Nat} {as : List MV} {h : MH} {r : Int32 × MH} (hf : w_M_net (f_M_net N) as h = some r) : SndM l E false 1 251 as h (some (.inl r.1)) r.2 := by
  unfold w_M_net at hf
  split at hf
  · obtain ⟨m1, m2, m3, m4⟩ := mx_M_net
    refine snd_of (C := C_M_net N) (own := 12) (rz := 0) (lim := 115) rI_eq m2 m4 pl_251 (TB_in _ cw_251 rfl) ⟨(fun _ => ⟨_, _, _, _, _, _, rfl, rfl, by rw [m4]; rfl⟩), (fun z => by rw [m3] at z; cases z)⟩ (fun z => by cases z) KDL_take rfl rfl (fun z => by cases z) (fun z => by cases z) (fun _ => rfl) (by rw [m1]; exact Nat.le_of_ble_eq_true rfl)
      (fun j as h x z => by
      dsimp only [C_M_net] at z
      cases hb : Nat.beq j 168 with
      | true =>
        have hb := Nat.eq_of_beq_eq_true hb
        subst hb
        exact ⟨0, by decide, (fun z => by cases z), s_M_refuse z⟩
      | false =>
        rw [hb] at z
        dsimp only at z
        cases hb : Nat.beq j 169 with
        | true =>
          have hb := Nat.eq_of_beq_eq_true hb
          subst hb
          exact ⟨0, by decide, (fun z => by cases z), s_M_gives z⟩
        | false =>
          rw [hb] at z
          dsimp only at z
          cases hb : Nat.beq j 171 with
          | true =>
            have hb := Nat.eq_of_beq_eq_true hb
            subst hb
            exact ⟨0, by decide, (fun z => by cases z), s_M_isTray z⟩
          | false =>
            rw [hb] at z
            dsimp only at z
            cases hb : Nat.beq j 215 with
            | true =>
              have hb := Nat.eq_of_beq_eq_true hb
              subst hb
              exact ⟨0, by decide, (fun z => by cases z), s_M_rowOf z⟩
            | false =>
              rw [hb] at z
              dsimp only at z
              cases hb : Nat.beq j 245 with
              | true =>
                have hb := Nat.eq_of_beq_eq_true hb
                subst hb
                exact ⟨0, by decide, (fun z => by cases z), s_M_rankOf z⟩
              | false =>
                rw [hb] at z
                dsimp only at z
                cases z)
      (fun _ _ _ _ z => by cases z)
      (fun _ _ _ _ z => by cases z)
      (fun _ _ _ _ z => by cases z)
      (fun p e R s m args below meth c Q n0 F hret => ?_)
    rw [m1] at F hret ⊢
    rw [mc_M_net] at F hret
    exact cuts_s (K := 400) (M := 343) (D := D_M_net N) (B := B_M_net N) F hret (chkT_ok chk_M_net) (hM_M_net N) (hB_M_net N) (hD_M_net N) N 0 _ _ _ hf
  · cases hf
def T_M_netTold : List (List (Option RW)) := [
  [some (.iload_n 1, 1, [1], 0, 0), some (.ifCond .lt 8, 3, [9], 0, 0), none, none, some (.iload_n 1, 1, [1], 0, 0), some (.iconst 1, 1, [], 1, 0), some (.if_icmp .le 11, 3, [17], 0, 0), none, none, some (.aload_n 0, 1, [0], 0, 0), some (.iconst 1, 1, [], 1, 0), some (.invokevirtual 342, 3, [0, 168, 2, 0], 0, 0), none, none, some (.goto 39, 3, [53], 0, 0), none, none, some (.aload_n 0, 1, [0], 0, 0), some (.getfield 162, 3, [12, 79, 0], 0, 0), none, none, some (.iconst (-1), 1, [], (-1), 0), some (.if_icmp .ne 12, 3, [34], 0, 0), none, none, some (.aload_n 0, 1, [0], 0, 0), some (.bipush 6, 2, [], 6, 0), none, some (.invokevirtual 342, 3, [0, 168, 2, 0], 0, 0), none, none, some (.goto 22, 3, [53], 0, 0)],
  [none, none, some (.aload_n 0, 1, [0], 0, 0), some (.iload_n 1, 1, [1], 0, 0), some (.ifCond .ne 10, 3, [46], 0, 0), none, none, some (.aload_n 0, 1, [0], 0, 0), some (.getfield 162, 3, [12, 79, 0], 0, 0), none, none, some (.goto 7, 3, [50], 0, 0), none, none, some (.aload_n 0, 1, [0], 0, 0), some (.getfield 484, 3, [12, 80, 0], 0, 0), none, none, some (.invokevirtual 180, 3, [0, 169, 2, 0], 0, 0), none, none, some (.ireturn, 1, [], 0, 0)]]
def f_M_netTold (N : Nat) (a1 : Int32) (h : MH) : Option (Int32 × MH) :=
  if a1 < 0 then
  ((f_M_refuse N 1 h).bind (fun x1 =>
  some (x1.1, x1.2)))
  else
  (if a1 ≤ 1 then
  (if (gI h 68 79) = ((-1)) then
  ((f_M_refuse N 6 h).bind (fun x2 =>
  some (x2.1, x2.2)))
  else
  (if a1 = 0 then
  ((f_M_gives N (gI h 68 79) h).bind (fun x3 =>
  some (x3.1, x3.2)))
  else
  ((f_M_gives N (gI h 68 80) h).bind (fun x4 =>
  some (x4.1, x4.2)))))
  else
  ((f_M_refuse N 1 h).bind (fun x5 =>
  some (x5.1, x5.2))))
def C_M_netTold (N : Nat) : MC := (KDL, false, (fun _ => 0), jsB, (fun j => match Nat.beq j 168 with
    | true => w_M_refuse (f_M_refuse N)
    | false => match Nat.beq j 169 with
    | true => w_M_gives (f_M_gives N)
    | false => fun _ _ => none), (fun _ _ _ => none), (fun _ _ _ => none), (fun _ _ _ => none))
def D_M_netTold (N : Nat) (n pc : Nat) (lv : ML) (st : List MV) (h : MH) : Option (Int32 × MH) :=
  match Nat.beq pc 0 with
  | true => (match lk lv 0, lk lv 1, st with
    | some (.inr (.inr (0, 12, 68))), some (.inl a1), [] => f_M_netTold N a1 h
    | _, _, _ => none)
  | false => none
set_option maxRecDepth 1000000 in
theorem E_M_netTold_0 (N : Nat) (n : Nat) (a1 : Int32) (h : MH) : seg (C_M_netTold N) 2 0 rI T_M_netTold [0] (fun q lv st h => match Nat.ble 1 q with
    | true => D_M_netTold N n q lv st h
    | false => none) 400 true 0 [(0, .inr (.inr (0, 12, 68))), (1, .inl a1)] [] h = f_M_netTold N a1 h := (rfl)
set_option maxRecDepth 1000000 in
theorem chk_M_netTold : chkT 12 false prog_14_method_90_code T_M_netTold = true := by decide +kernel
theorem mc_M_netTold : mC 252 = prog_14_method_90_code := by rfl
theorem mx_M_netTold : mL 252 = 2 ∧ mR 252 = some .int ∧ mK 252 = 1 ∧ (mN 252).cls = cN 12 := by decide +kernel
theorem hD_M_netTold (N : Nat) {r : Int32 × MH} : ∀ n pc lv st h, D_M_netTold N n pc lv st h = some r → ∃ lv', (∀ q ∈ lv', q ∈ lv) ∧ seg (C_M_netTold N) 2 0 rI T_M_netTold [0] (fun q lv st h => match Nat.ble (pc + 1) q with
    | true => D_M_netTold N n q lv st h
    | false => none) 400 true pc lv' st h = some r := by
  intro n pc lv st h hf
  unfold D_M_netTold at hf
  split at hf
  · rename_i hb
    have hb := Nat.eq_of_beq_eq_true hb
    subst hb
    split at hf
    · rename_i y0 e0 e1
      exact ⟨_, (sub_cons e0 (sub_cons e1 sub_nil)), (E_M_netTold_0 N n _ h).trans hf⟩
    · cases hf
  · skip
    cases hf
theorem hM_M_netTold (N : Nat) {r : Int32 × MH} : ∀ n pc lv st h, D_M_netTold N n pc lv st h = some r → pc < 54 := by
  intro n pc lv st h hf
  unfold D_M_netTold at hf
  split at hf
  · rename_i hb
    rw [Nat.eq_of_beq_eq_true hb]
    decide
  · skip
    cases hf
theorem s_M_netTold {l : Launch} {E : EV} {N : Nat} {as : List MV} {h : MH} {r : Int32 × MH} (hf : w_M_netTold (f_M_netTold N) as h = some r) : SndM l E false 1 252 as h (some (.inl r.1)) r.2 := by
  unfold w_M_netTold at hf
  split at hf
  · obtain ⟨m1, m2, m3, m4⟩ := mx_M_netTold
    refine snd_of (C := C_M_netTold N) (own := 12) (rz := 0) (lim := 115) rI_eq m2 m4 pl_252 (TB_in _ cw_252 rfl) ⟨(fun _ => ⟨_, _, _, _, _, _, rfl, rfl, by rw [m4]; rfl⟩), (fun z => by rw [m3] at z; cases z)⟩ (fun z => by cases z) KDL_take rfl rfl (fun z => by cases z) (fun z => by cases z) (fun _ => rfl) (by rw [m1]; exact Nat.le_of_ble_eq_true rfl)
      (fun j as h x z => by
      dsimp only [C_M_netTold] at z
      cases hb : Nat.beq j 168 with
      | true =>
        have hb := Nat.eq_of_beq_eq_true hb
        subst hb
        exact ⟨0, by decide, (fun z => by cases z), s_M_refuse z⟩
      | false =>
        rw [hb] at z
        dsimp only at z
        cases hb : Nat.beq j 169 with
        | true =>
          have hb := Nat.eq_of_beq_eq_true hb
          subst hb
          exact ⟨0, by decide, (fun z => by cases z), s_M_gives z⟩
        | false =>
          rw [hb] at z
          dsimp only at z
          cases z)
      (fun _ _ _ _ z => by cases z)
      (fun _ _ _ _ z => by cases z)
      (fun _ _ _ _ z => by cases z)
      (fun p e R s m args below meth c Q n0 F hret => ?_)
    rw [m1] at F hret ⊢
    rw [mc_M_netTold] at F hret
    exact cuts_s (K := 400) (M := 54) (D := D_M_netTold N) (B := fun _ _ _ _ _ => none) F hret (chkT_ok chk_M_netTold) (hM_M_netTold N) (fun _ _ _ _ _ z => by cases z) (hD_M_netTold N) N 0 _ _ _ hf
  · cases hf
def T_M_few : List (List (Option RW)) := [
  [some (.iload_n 1, 1, [1], 0, 0), some (.invokestatic 184, 3, [2, 171, 1, 0], 0, 0), none, none, some (.ifCond .eq 32, 3, [36], 0, 0), none, none, some (.iload_n 2, 1, [2], 0, 0), some (.iconst 1, 1, [], 1, 0), some (.if_icmp .lt 27, 3, [36], 0, 0), none, none, some (.iload_n 2, 1, [2], 0, 0), some (.bipush 8, 2, [], 8, 0), none, some (.if_icmp .gt 21, 3, [36], 0, 0), none, none, some (.iload_n 3, 1, [3], 0, 0), some (.ifCond .lt 17, 3, [36], 0, 0), none, none, some (.iload 4, 2, [4], 0, 0), none, some (.sipush 2000, 3, [], 2000, 0), none, none, some (.if_icmp .gt 9, 3, [36], 0, 0), none, none, some (.iload 4, 2, [4], 0, 0), none],
  [some (.iload_n 3, 1, [3], 0, 0), some (.if_icmp .ge 9, 3, [42], 0, 0), none, none, some (.aload_n 0, 1, [0], 0, 0), some (.iconst 1, 1, [], 1, 0), some (.invokevirtual 342, 3, [0, 168, 2, 0], 0, 0), none, none, some (.ireturn, 1, [], 0, 0), some (.aload_n 0, 1, [0], 0, 0), some (.getfield 17, 3, [12, 4, 2, 1, 4, 2], 0, 0), none, none, some (.iload_n 1, 1, [1], 0, 0), some (.iaload, 1, [], 0, 0), some (.iconst (-1), 1, [], (-1), 0), some (.if_icmp .ne 9, 3, [58], 0, 0), none, none, some (.aload_n 0, 1, [0], 0, 0), some (.iconst 2, 1, [], 2, 0), some (.invokevirtual 342, 3, [0, 168, 2, 0], 0, 0), none, none, some (.ireturn, 1, [], 0, 0), some (.aload_n 0, 1, [0], 0, 0), some (.getfield 17, 3, [12, 4, 2, 1, 4, 2], 0, 0), none, none, some (.iload_n 1, 1, [1], 0, 0), some (.iaload, 1, [], 0, 0)],
  [some (.iload_n 2, 1, [2], 0, 0), some (.if_icmp .ge 9, 3, [74], 0, 0), none, none, some (.aload_n 0, 1, [0], 0, 0), some (.iconst 3, 1, [], 3, 0), some (.invokevirtual 342, 3, [0, 168, 2, 0], 0, 0), none, none, some (.ireturn, 1, [], 0, 0), some (.iconst 0, 1, [], 0, 0), some (.istore 5, 2, [5], 0, 0), none, some (.iload 5, 2, [5], 0, 0), none, some (.iload_n 2, 1, [2], 0, 0), some (.if_icmp .ge 51, 3, [131], 0, 0), none, none, some (.aload_n 0, 1, [0], 0, 0), some (.getfield 20, 3, [12, 5, 2, 2, 240, 3], 0, 0), none, none, some (.bipush 60, 2, [], 60, 0), none, some (.iload_n 1, 1, [1], 0, 0), some (.imul, 1, [], 0, 0), some (.iload 5, 2, [5], 0, 0), none, some (.iadd, 1, [], 0, 0), some (.laload, 1, [], 0, 0), some (.lconst 1, 1, [], 0, 1)],
  [some (.lcmp, 1, [], 0, 0), some (.ifCond .lt 22, 3, [119], 0, 0), none, none, some (.aload_n 0, 1, [0], 0, 0), some (.getfield 20, 3, [12, 5, 2, 2, 240, 3], 0, 0), none, none, some (.bipush 60, 2, [], 60, 0), none, some (.iload_n 1, 1, [1], 0, 0), some (.imul, 1, [], 0, 0), some (.iload 5, 2, [5], 0, 0), none, some (.iadd, 1, [], 0, 0), some (.laload, 1, [], 0, 0), some (.ldc2_w 487, 3, [], 0, 99), none, none, some (.lcmp, 1, [], 0, 0), some (.ifCond .le 9, 3, [125], 0, 0), none, none, some (.aload_n 0, 1, [0], 0, 0), some (.iconst 1, 1, [], 1, 0), some (.invokevirtual 342, 3, [0, 168, 2, 0], 0, 0), none, none, some (.ireturn, 1, [], 0, 0), some (.iinc 5 1, 3, [5], 1, 0), none, none],
  [some (.goto (-51), 3, [77], 0, 0), none, none, some (.iconst 0, 1, [], 0, 0), some (.istore 5, 2, [5], 0, 0), none, some (.iload 5, 2, [5], 0, 0), none, some (.iload_n 2, 1, [2], 0, 0), some (.if_icmp .ge 29, 3, [166], 0, 0), none, none, some (.aload_n 0, 1, [0], 0, 0), some (.getfield 171, 3, [12, 84, 2, 1, 8, 47], 0, 0), none, none, some (.iload 5, 2, [5], 0, 0), none, some (.aload_n 0, 1, [0], 0, 0), some (.getfield 20, 3, [12, 5, 2, 2, 240, 3], 0, 0), none, none, some (.bipush 60, 2, [], 60, 0), none, some (.iload_n 1, 1, [1], 0, 0), some (.imul, 1, [], 0, 0), some (.iload 5, 2, [5], 0, 0), none, some (.iadd, 1, [], 0, 0), some (.laload, 1, [], 0, 0), some (.l2i, 1, [], 0, 0), some (.iastore, 1, [], 0, 0)],
  [some (.iinc 5 1, 3, [5], 1, 0), none, none, some (.goto (-29), 3, [134], 0, 0), none, none, some (.iload_n 2, 1, [2], 0, 0), some (.istore 5, 2, [5], 0, 0), none, some (.iload 5, 2, [5], 0, 0), none, some (.ifCond .lt 130, 3, [301], 0, 0), none, none, some (.iconst 0, 1, [], 0, 0), some (.istore 6, 2, [6], 0, 0), none, some (.iload 6, 2, [6], 0, 0), none, some (.sipush 2000, 3, [], 2000, 0), none, none, some (.if_icmp .gt 113, 3, [295], 0, 0), none, none, some (.iload 5, 2, [5], 0, 0), none, some (.iload_n 2, 1, [2], 0, 0), some (.if_icmp .ne 18, 3, [206], 0, 0), none, none, some (.iload 6, 2, [6], 0, 0)],
  [none, some (.ifCond .ne 7, 3, [200], 0, 0), none, none, some (.iconst 0, 1, [], 0, 0), some (.goto 25, 3, [222], 0, 0), none, none, some (.ldc_w 489, 3, [], 100000000, 0), none, none, some (.goto 19, 3, [222], 0, 0), none, none, some (.aload_n 0, 1, [0], 0, 0), some (.getfield 165, 3, [12, 81, 2, 1, 18009, 45], 0, 0), none, none, some (.sipush 2001, 3, [], 2001, 0), none, none, some (.iload 5, 2, [5], 0, 0), none, some (.iconst 1, 1, [], 1, 0), some (.iadd, 1, [], 0, 0), some (.imul, 1, [], 0, 0), some (.iload 6, 2, [6], 0, 0), none, some (.iadd, 1, [], 0, 0), some (.iaload, 1, [], 0, 0), some (.istore 7, 2, [7], 0, 0), none],
  [some (.iload 5, 2, [5], 0, 0), none, some (.iload_n 2, 1, [2], 0, 0), some (.if_icmp .ge 46, 3, [273], 0, 0), none, none, some (.iload 6, 2, [6], 0, 0), none, some (.aload_n 0, 1, [0], 0, 0), some (.getfield 171, 3, [12, 84, 2, 1, 8, 47], 0, 0), none, none, some (.iload 5, 2, [5], 0, 0), none, some (.iaload, 1, [], 0, 0), some (.if_icmp .lt 34, 3, [273], 0, 0), none, none, some (.iload 7, 2, [7], 0, 0), none, some (.iconst 1, 1, [], 1, 0), some (.aload_n 0, 1, [0], 0, 0), some (.getfield 165, 3, [12, 81, 2, 1, 18009, 45], 0, 0), none, none, some (.sipush 2001, 3, [], 2001, 0), none, none, some (.iload 5, 2, [5], 0, 0), none, some (.imul, 1, [], 0, 0), some (.iload 6, 2, [6], 0, 0)],
  [none, some (.iadd, 1, [], 0, 0), some (.aload_n 0, 1, [0], 0, 0), some (.getfield 171, 3, [12, 84, 2, 1, 8, 47], 0, 0), none, none, some (.iload 5, 2, [5], 0, 0), none, some (.iaload, 1, [], 0, 0), some (.isub, 1, [], 0, 0), some (.iaload, 1, [], 0, 0), some (.iadd, 1, [], 0, 0), some (.invokestatic 233, 3, [2, 261, 2, 0], 0, 0), none, none, some (.istore 7, 2, [7], 0, 0), none, some (.aload_n 0, 1, [0], 0, 0), some (.getfield 165, 3, [12, 81, 2, 1, 18009, 45], 0, 0), none, none, some (.sipush 2001, 3, [], 2001, 0), none, none, some (.iload 5, 2, [5], 0, 0), none, some (.imul, 1, [], 0, 0), some (.iload 6, 2, [6], 0, 0), none, some (.iadd, 1, [], 0, 0), some (.iload 7, 2, [7], 0, 0), none],
  [some (.iastore, 1, [], 0, 0), some (.iinc 6 1, 3, [6], 1, 0), none, none, some (.goto (-115), 3, [177], 0, 0), none, none, some (.iinc 5 (-1), 3, [5], (-1), 0), none, none, some (.goto (-129), 3, [169], 0, 0), none, none, some (.iconst (-1), 1, [], (-1), 0), some (.istore 5, 2, [5], 0, 0), none, some (.iload_n 3, 1, [3], 0, 0), some (.istore 6, 2, [6], 0, 0), none, some (.iload 6, 2, [6], 0, 0), none, some (.iload 4, 2, [4], 0, 0), none, some (.if_icmp .gt 49, 3, [360], 0, 0), none, none, some (.aload_n 0, 1, [0], 0, 0), some (.getfield 165, 3, [12, 81, 2, 1, 18009, 45], 0, 0), none, none, some (.iload 6, 2, [6], 0, 0), none],
  [some (.iaload, 1, [], 0, 0), some (.ldc_w 489, 3, [], 100000000, 0), none, none, some (.if_icmp .ge 30, 3, [354], 0, 0), none, none, some (.iload 5, 2, [5], 0, 0), none, some (.iconst (-1), 1, [], (-1), 0), some (.if_icmp .eq 20, 3, [350], 0, 0), none, none, some (.aload_n 0, 1, [0], 0, 0), some (.getfield 165, 3, [12, 81, 2, 1, 18009, 45], 0, 0), none, none, some (.iload 6, 2, [6], 0, 0), none, some (.iaload, 1, [], 0, 0), some (.aload_n 0, 1, [0], 0, 0), some (.getfield 165, 3, [12, 81, 2, 1, 18009, 45], 0, 0), none, none, some (.iload 5, 2, [5], 0, 0), none, some (.iaload, 1, [], 0, 0), some (.if_icmp .ge 7, 3, [354], 0, 0), none, none, some (.iload 6, 2, [6], 0, 0), none],
  [some (.istore 5, 2, [5], 0, 0), none, some (.iinc 6 1, 3, [6], 1, 0), none, none, some (.goto (-50), 3, [307], 0, 0), none, none, some (.iload 5, 2, [5], 0, 0), none, some (.iconst (-1), 1, [], (-1), 0), some (.if_icmp .ne 10, 3, [373], 0, 0), none, none, some (.aload_n 0, 1, [0], 0, 0), some (.bipush 6, 2, [], 6, 0), none, some (.invokevirtual 342, 3, [0, 168, 2, 0], 0, 0), none, none, some (.ireturn, 1, [], 0, 0), some (.aload_n 0, 1, [0], 0, 0), some (.getfield 165, 3, [12, 81, 2, 1, 18009, 45], 0, 0), none, none, some (.iload 5, 2, [5], 0, 0), none, some (.iaload, 1, [], 0, 0), some (.istore 6, 2, [6], 0, 0), none, some (.iload 5, 2, [5], 0, 0), none],
  [some (.istore 7, 2, [7], 0, 0), none, some (.iload 6, 2, [6], 0, 0), none, some (.istore 8, 2, [8], 0, 0), none, some (.iconst 0, 1, [], 0, 0), some (.istore 9, 2, [9], 0, 0), none, some (.iload 9, 2, [9], 0, 0), none, some (.iload_n 2, 1, [2], 0, 0), some (.if_icmp .ge 63, 3, [459], 0, 0), none, none, some (.iconst 0, 1, [], 0, 0), some (.istore 10, 2, [10], 0, 0), none, some (.aload_n 0, 1, [0], 0, 0), some (.getfield 165, 3, [12, 81, 2, 1, 18009, 45], 0, 0), none, none, some (.sipush 2001, 3, [], 2001, 0), none, none, some (.iload 9, 2, [9], 0, 0), none, some (.iconst 1, 1, [], 1, 0), some (.iadd, 1, [], 0, 0), some (.imul, 1, [], 0, 0), some (.iload 7, 2, [7], 0, 0), none],
  [some (.iadd, 1, [], 0, 0), some (.iaload, 1, [], 0, 0), some (.iload 8, 2, [8], 0, 0), none, some (.if_icmp .eq 24, 3, [444], 0, 0), none, none, some (.iinc 10 1, 3, [10], 1, 0), none, none, some (.iload 7, 2, [7], 0, 0), none, some (.aload_n 0, 1, [0], 0, 0), some (.getfield 171, 3, [12, 84, 2, 1, 8, 47], 0, 0), none, none, some (.iload 9, 2, [9], 0, 0), none, some (.iaload, 1, [], 0, 0), some (.isub, 1, [], 0, 0), some (.istore 7, 2, [7], 0, 0), none, some (.iinc 8 (-1), 3, [8], (-1), 0), none, none, some (.goto (-39), 3, [402], 0, 0), none, none, some (.aload_n 0, 1, [0], 0, 0), some (.getfield 168, 3, [12, 82, 2, 1, 8, 46], 0, 0), none, none],
  [some (.iload 9, 2, [9], 0, 0), none, some (.iload 10, 2, [10], 0, 0), none, some (.iastore, 1, [], 0, 0), some (.iinc 9 1, 3, [9], 1, 0), none, none, some (.goto (-63), 3, [393], 0, 0), none, none, some (.aload_n 0, 1, [0], 0, 0), some (.iload_n 2, 1, [2], 0, 0), some (.putfield 490, 3, [12, 83, 0], 0, 0), none, none, some (.aload_n 0, 1, [0], 0, 0), some (.iload 6, 2, [6], 0, 0), none, some (.invokevirtual 180, 3, [0, 169, 2, 0], 0, 0), none, none, some (.ireturn, 1, [], 0, 0)]]
def F_M_few_402 (N : Nat) (bk : (Int32 → Int32 → Int32 → Int32 → Int32 → MH → Option (Int32 × MH)) × (Int32 → Int32 → Int32 → Int32 → Int32 → MH → Option (Int32 × MH)) × (Int32 → Int32 → Int32 → Int32 → MH → Option (Int32 × MH)) × (Int32 → Int32 → Int32 → Int32 → Int32 → MH → Option (Int32 × MH)) × (Int32 → Int32 → Int32 → Int32 → MH → Option (Int32 × MH)) × (Int32 → Int32 → Int32 → Int32 → Int32 → MH → Option (Int32 × MH)) × (Int32 → Int32 → Int32 → Int32 → Int32 → Int32 → MH → Option (Int32 × MH))) (a2 : Int32) (a6 : Int32) (a7 : Int32) (a8 : Int32) (a9 : Int32) (a10 : Int32) (h : MH) : Option (Int32 × MH) :=
  if inB ((2001 * (a9 + 1)) + a7) 18009 = true then
  (if (gI h 113 (iN ((2001 * (a9 + 1)) + a7))) = a8 then
  (if inB a9 8 = true then
  (let h27 : MH := sI h 114 (iN a9) a10
  let v28 : Int32 := a9 + 1
  (bk.2.2.2.2.2.1) a2 a6 a7 a8 v28 h27)
  else none)
  else
  (let v29 : Int32 := a10 + 1
  if inB a9 8 = true then
  (let v30 : Int32 := a7 - (gI h 115 (iN a9))
  let v31 : Int32 := a8 + (-1)
  (bk.2.2.2.2.2.2) a2 a6 v30 v31 a9 v29 h)
  else none))
  else none
def F_M_few_393 (N : Nat) (bk : (Int32 → Int32 → Int32 → Int32 → Int32 → MH → Option (Int32 × MH)) × (Int32 → Int32 → Int32 → Int32 → Int32 → MH → Option (Int32 × MH)) × (Int32 → Int32 → Int32 → Int32 → MH → Option (Int32 × MH)) × (Int32 → Int32 → Int32 → Int32 → Int32 → MH → Option (Int32 × MH)) × (Int32 → Int32 → Int32 → Int32 → MH → Option (Int32 × MH)) × (Int32 → Int32 → Int32 → Int32 → Int32 → MH → Option (Int32 × MH)) × (Int32 → Int32 → Int32 → Int32 → Int32 → Int32 → MH → Option (Int32 × MH))) (a2 : Int32) (a6 : Int32) (a7 : Int32) (a8 : Int32) (a9 : Int32) (h : MH) : Option (Int32 × MH) :=
  if a2 ≤ a9 then
  (let h25 : MH := sI h 68 83 a2
  (f_M_gives N a6 h25).bind (fun x26 =>
  some (x26.1, x26.2)))
  else
  (F_M_few_402 N bk a2 a6 a7 a8 a9 0 h)
def F_M_few_307 (N : Nat) (bk : (Int32 → Int32 → Int32 → Int32 → Int32 → MH → Option (Int32 × MH)) × (Int32 → Int32 → Int32 → Int32 → Int32 → MH → Option (Int32 × MH)) × (Int32 → Int32 → Int32 → Int32 → MH → Option (Int32 × MH)) × (Int32 → Int32 → Int32 → Int32 → Int32 → MH → Option (Int32 × MH)) × (Int32 → Int32 → Int32 → Int32 → MH → Option (Int32 × MH)) × (Int32 → Int32 → Int32 → Int32 → Int32 → MH → Option (Int32 × MH)) × (Int32 → Int32 → Int32 → Int32 → Int32 → Int32 → MH → Option (Int32 × MH))) (a2 : Int32) (a4 : Int32) (a5 : Int32) (a6 : Int32) (h : MH) : Option (Int32 × MH) :=
  if a4 < a6 then
  (if a5 = ((-1)) then
  ((f_M_refuse N 6 h).bind (fun x19 =>
  some (x19.1, x19.2)))
  else
  (if inB a5 18009 = true then
  (let v20 : Int32 := gI h 113 (iN a5)
  F_M_few_393 N bk a2 v20 a5 v20 0 h)
  else none))
  else
  (if inB a6 18009 = true then
  (if 100000000 ≤ (gI h 113 (iN a6)) then
  (let v21 : Int32 := a6 + 1
  (bk.2.2.2.2.1) a2 a4 a5 v21 h)
  else
  (if a5 = ((-1)) then
  (let v22 : Int32 := a6 + 1
  (bk.2.2.2.2.1) a2 a4 a6 v22 h)
  else
  (if inB a6 18009 = true then
  (if inB a5 18009 = true then
  (if (gI h 113 (iN a5)) ≤ (gI h 113 (iN a6)) then
  (let v23 : Int32 := a6 + 1
  (bk.2.2.2.2.1) a2 a4 a5 v23 h)
  else
  (let v24 : Int32 := a6 + 1
  (bk.2.2.2.2.1) a2 a4 a6 v24 h))
  else none)
  else none)))
  else none)
def F_M_few_273 (N : Nat) (bk : (Int32 → Int32 → Int32 → Int32 → Int32 → MH → Option (Int32 × MH)) × (Int32 → Int32 → Int32 → Int32 → Int32 → MH → Option (Int32 × MH)) × (Int32 → Int32 → Int32 → Int32 → MH → Option (Int32 × MH)) × (Int32 → Int32 → Int32 → Int32 → Int32 → MH → Option (Int32 × MH)) × (Int32 → Int32 → Int32 → Int32 → MH → Option (Int32 × MH)) × (Int32 → Int32 → Int32 → Int32 → Int32 → MH → Option (Int32 × MH)) × (Int32 → Int32 → Int32 → Int32 → Int32 → Int32 → MH → Option (Int32 × MH))) (a2 : Int32) (a3 : Int32) (a4 : Int32) (a5 : Int32) (a6 : Int32) (a7 : Int32) (h : MH) : Option (Int32 × MH) :=
  if inB ((2001 * a5) + a6) 18009 = true then
  (let h17 : MH := sI h 113 (iN ((2001 * a5) + a6)) a7
  let v18 : Int32 := a6 + 1
  (bk.2.2.2.1) a2 a3 a4 a5 v18 h17)
  else none
def F_M_few_222 (N : Nat) (bk : (Int32 → Int32 → Int32 → Int32 → Int32 → MH → Option (Int32 × MH)) × (Int32 → Int32 → Int32 → Int32 → Int32 → MH → Option (Int32 × MH)) × (Int32 → Int32 → Int32 → Int32 → MH → Option (Int32 × MH)) × (Int32 → Int32 → Int32 → Int32 → Int32 → MH → Option (Int32 × MH)) × (Int32 → Int32 → Int32 → Int32 → MH → Option (Int32 × MH)) × (Int32 → Int32 → Int32 → Int32 → Int32 → MH → Option (Int32 × MH)) × (Int32 → Int32 → Int32 → Int32 → Int32 → Int32 → MH → Option (Int32 × MH))) (a2 : Int32) (a3 : Int32) (a4 : Int32) (a5 : Int32) (a6 : Int32) (as0 : Int32) (h : MH) : Option (Int32 × MH) :=
  if a2 ≤ a5 then
  (F_M_few_273 N bk a2 a3 a4 a5 a6 as0 h)
  else
  (if inB a5 8 = true then
  (if a6 < (gI h 115 (iN a5)) then
  (F_M_few_273 N bk a2 a3 a4 a5 a6 as0 h)
  else
  (if inB a5 8 = true then
  (if inB (((2001 * a5) + a6) - (gI h 115 (iN a5))) 18009 = true then
  ((f_Math_min_II N as0 (1 + (gI h 113 (iN (((2001 * a5) + a6) - (gI h 115 (iN a5)))))) h).bind (fun x16 =>
  F_M_few_273 N bk a2 a3 a4 a5 a6 x16.1 x16.2))
  else none)
  else none))
  else none)
def F_M_few_177 (N : Nat) (bk : (Int32 → Int32 → Int32 → Int32 → Int32 → MH → Option (Int32 × MH)) × (Int32 → Int32 → Int32 → Int32 → Int32 → MH → Option (Int32 × MH)) × (Int32 → Int32 → Int32 → Int32 → MH → Option (Int32 × MH)) × (Int32 → Int32 → Int32 → Int32 → Int32 → MH → Option (Int32 × MH)) × (Int32 → Int32 → Int32 → Int32 → MH → Option (Int32 × MH)) × (Int32 → Int32 → Int32 → Int32 → Int32 → MH → Option (Int32 × MH)) × (Int32 → Int32 → Int32 → Int32 → Int32 → Int32 → MH → Option (Int32 × MH))) (a2 : Int32) (a3 : Int32) (a4 : Int32) (a5 : Int32) (a6 : Int32) (h : MH) : Option (Int32 × MH) :=
  if 2000 < a6 then
  (let v15 : Int32 := a5 + (-1)
  (bk.2.2.1) a2 a3 a4 v15 h)
  else
  (if a5 = a2 then
  (if a6 = 0 then
  (F_M_few_222 N bk a2 a3 a4 a5 a6 0 h)
  else
  (F_M_few_222 N bk a2 a3 a4 a5 a6 100000000 h))
  else
  (if inB ((2001 * (a5 + 1)) + a6) 18009 = true then
  (F_M_few_222 N bk a2 a3 a4 a5 a6 (gI h 113 (iN ((2001 * (a5 + 1)) + a6))) h)
  else none))
def F_M_few_169 (N : Nat) (bk : (Int32 → Int32 → Int32 → Int32 → Int32 → MH → Option (Int32 × MH)) × (Int32 → Int32 → Int32 → Int32 → Int32 → MH → Option (Int32 × MH)) × (Int32 → Int32 → Int32 → Int32 → MH → Option (Int32 × MH)) × (Int32 → Int32 → Int32 → Int32 → Int32 → MH → Option (Int32 × MH)) × (Int32 → Int32 → Int32 → Int32 → MH → Option (Int32 × MH)) × (Int32 → Int32 → Int32 → Int32 → Int32 → MH → Option (Int32 × MH)) × (Int32 → Int32 → Int32 → Int32 → Int32 → Int32 → MH → Option (Int32 × MH))) (a2 : Int32) (a3 : Int32) (a4 : Int32) (a5 : Int32) (h : MH) : Option (Int32 × MH) :=
  if a5 < 0 then
  (F_M_few_307 N bk a2 a4 ((-1)) a3 h)
  else
  (F_M_few_177 N bk a2 a3 a4 a5 0 h)
def F_M_few_134 (N : Nat) (bk : (Int32 → Int32 → Int32 → Int32 → Int32 → MH → Option (Int32 × MH)) × (Int32 → Int32 → Int32 → Int32 → Int32 → MH → Option (Int32 × MH)) × (Int32 → Int32 → Int32 → Int32 → MH → Option (Int32 × MH)) × (Int32 → Int32 → Int32 → Int32 → Int32 → MH → Option (Int32 × MH)) × (Int32 → Int32 → Int32 → Int32 → MH → Option (Int32 × MH)) × (Int32 → Int32 → Int32 → Int32 → Int32 → MH → Option (Int32 × MH)) × (Int32 → Int32 → Int32 → Int32 → Int32 → Int32 → MH → Option (Int32 × MH))) (a1 : Int32) (a2 : Int32) (a3 : Int32) (a4 : Int32) (a5 : Int32) (h : MH) : Option (Int32 × MH) :=
  if a2 ≤ a5 then
  (F_M_few_169 N bk a2 a3 a4 a2 h)
  else
  (if inB ((60 * a1) + a5) 240 = true then
  (if inB a5 8 = true then
  (let h13 : MH := sI h 115 (iN a5) (Int64.toInt32 (gJ h 71 (iN ((60 * a1) + a5))))
  let v14 : Int32 := a5 + 1
  (bk.2.1) a1 a2 a3 a4 v14 h13)
  else none)
  else none)
def F_M_few_77 (N : Nat) (bk : (Int32 → Int32 → Int32 → Int32 → Int32 → MH → Option (Int32 × MH)) × (Int32 → Int32 → Int32 → Int32 → Int32 → MH → Option (Int32 × MH)) × (Int32 → Int32 → Int32 → Int32 → MH → Option (Int32 × MH)) × (Int32 → Int32 → Int32 → Int32 → Int32 → MH → Option (Int32 × MH)) × (Int32 → Int32 → Int32 → Int32 → MH → Option (Int32 × MH)) × (Int32 → Int32 → Int32 → Int32 → Int32 → MH → Option (Int32 × MH)) × (Int32 → Int32 → Int32 → Int32 → Int32 → Int32 → MH → Option (Int32 × MH))) (a1 : Int32) (a2 : Int32) (a3 : Int32) (a4 : Int32) (a5 : Int32) (h : MH) : Option (Int32 × MH) :=
  if a2 ≤ a5 then
  (F_M_few_134 N bk a1 a2 a3 a4 0 h)
  else
  (if inB ((60 * a1) + a5) 240 = true then
  (if (lg_cmp (gJ h 71 (iN ((60 * a1) + a5))) 1) < 0 then
  ((f_M_refuse N 1 h).bind (fun x10 =>
  some (x10.1, x10.2)))
  else
  (if inB ((60 * a1) + a5) 240 = true then
  (if (lg_cmp (gJ h 71 (iN ((60 * a1) + a5))) 99) ≤ 0 then
  (let v11 : Int32 := a5 + 1
  (bk.1) a1 a2 a3 a4 v11 h)
  else
  ((f_M_refuse N 1 h).bind (fun x12 =>
  some (x12.1, x12.2))))
  else none))
  else none)
def F_M_few_0 (N : Nat) (bk : (Int32 → Int32 → Int32 → Int32 → Int32 → MH → Option (Int32 × MH)) × (Int32 → Int32 → Int32 → Int32 → Int32 → MH → Option (Int32 × MH)) × (Int32 → Int32 → Int32 → Int32 → MH → Option (Int32 × MH)) × (Int32 → Int32 → Int32 → Int32 → Int32 → MH → Option (Int32 × MH)) × (Int32 → Int32 → Int32 → Int32 → MH → Option (Int32 × MH)) × (Int32 → Int32 → Int32 → Int32 → Int32 → MH → Option (Int32 × MH)) × (Int32 → Int32 → Int32 → Int32 → Int32 → Int32 → MH → Option (Int32 × MH))) (a1 : Int32) (a2 : Int32) (a3 : Int32) (a4 : Int32) (h : MH) : Option (Int32 × MH) :=
  (f_M_isTray N a1 h).bind (fun x1 =>
  if x1.1 = 0 then
  ((f_M_refuse N 1 x1.2).bind (fun x2 =>
  some (x2.1, x2.2)))
  else
  (if a2 < 1 then
  ((f_M_refuse N 1 x1.2).bind (fun x3 =>
  some (x3.1, x3.2)))
  else
  (if 8 < a2 then
  ((f_M_refuse N 1 x1.2).bind (fun x4 =>
  some (x4.1, x4.2)))
  else
  (if a3 < 0 then
  ((f_M_refuse N 1 x1.2).bind (fun x5 =>
  some (x5.1, x5.2)))
  else
  (if 2000 < a4 then
  ((f_M_refuse N 1 x1.2).bind (fun x6 =>
  some (x6.1, x6.2)))
  else
  (if a3 ≤ a4 then
  (if inB a1 4 = true then
  (if (gI x1.2 70 (iN a1)) = ((-1)) then
  ((f_M_refuse N 2 x1.2).bind (fun x7 =>
  some (x7.1, x7.2)))
  else
  (if inB a1 4 = true then
  (if a2 ≤ (gI x1.2 70 (iN a1)) then
  (F_M_few_77 N bk a1 a2 a3 a4 0 x1.2)
  else
  ((f_M_refuse N 3 x1.2).bind (fun x8 =>
  some (x8.1, x8.2))))
  else none))
  else none)
  else
  ((f_M_refuse N 1 x1.2).bind (fun x9 =>
  some (x9.1, x9.2)))))))))
def L_M_few (N : Nat) : Nat → ((Int32 → Int32 → Int32 → Int32 → Int32 → MH → Option (Int32 × MH)) × (Int32 → Int32 → Int32 → Int32 → Int32 → MH → Option (Int32 × MH)) × (Int32 → Int32 → Int32 → Int32 → MH → Option (Int32 × MH)) × (Int32 → Int32 → Int32 → Int32 → Int32 → MH → Option (Int32 × MH)) × (Int32 → Int32 → Int32 → Int32 → MH → Option (Int32 × MH)) × (Int32 → Int32 → Int32 → Int32 → Int32 → MH → Option (Int32 × MH)) × (Int32 → Int32 → Int32 → Int32 → Int32 → Int32 → MH → Option (Int32 × MH)))
  | 0 => (fun _ _ _ _ _ _ => none, fun _ _ _ _ _ _ => none, fun _ _ _ _ _ => none, fun _ _ _ _ _ _ => none, fun _ _ _ _ _ => none, fun _ _ _ _ _ _ => none, fun _ _ _ _ _ _ _ => none)
  | n + 1 => (F_M_few_77 N (L_M_few N n), F_M_few_134 N (L_M_few N n), F_M_few_169 N (L_M_few N n), F_M_few_177 N (L_M_few N n), F_M_few_307 N (L_M_few N n), F_M_few_393 N (L_M_few N n), F_M_few_402 N (L_M_few N n))
def f_M_few (N : Nat) (a1 : Int32) (a2 : Int32) (a3 : Int32) (a4 : Int32) (h : MH) : Option (Int32 × MH) := F_M_few_0 N (L_M_few N N) a1 a2 a3 a4 h
def C_M_few (N : Nat) : MC := (KDL, false, (fun _ => 0), jsB, (fun j => match Nat.beq j 168 with
    | true => w_M_refuse (f_M_refuse N)
    | false => match Nat.beq j 169 with
    | true => w_M_gives (f_M_gives N)
    | false => match Nat.beq j 171 with
    | true => w_M_isTray (f_M_isTray N)
    | false => match Nat.beq j 261 with
    | true => w_Math_min_II (f_Math_min_II N)
    | false => fun _ _ => none), (fun _ _ _ => none), (fun _ _ _ => none), (fun _ _ _ => none))
def D_M_few (N : Nat) (n pc : Nat) (lv : ML) (st : List MV) (h : MH) : Option (Int32 × MH) :=
  match Nat.beq pc 0 with
  | true => (match lk lv 0, lk lv 1, lk lv 2, lk lv 3, lk lv 4, st with
    | some (.inr (.inr (0, 12, 68))), some (.inl a1), some (.inl a2), some (.inl a3), some (.inl a4), [] => F_M_few_0 N (L_M_few N n) a1 a2 a3 a4 h
    | _, _, _, _, _, _ => none)
  | false => match Nat.beq pc 77 with
  | true => (match lk lv 0, lk lv 1, lk lv 2, lk lv 3, lk lv 4, lk lv 5, st with
    | some (.inr (.inr (0, 12, 68))), some (.inl a1), some (.inl a2), some (.inl a3), some (.inl a4), some (.inl a5), [] => F_M_few_77 N (L_M_few N n) a1 a2 a3 a4 a5 h
    | _, _, _, _, _, _, _ => none)
  | false => match Nat.beq pc 134 with
  | true => (match lk lv 0, lk lv 1, lk lv 2, lk lv 3, lk lv 4, lk lv 5, st with
    | some (.inr (.inr (0, 12, 68))), some (.inl a1), some (.inl a2), some (.inl a3), some (.inl a4), some (.inl a5), [] => F_M_few_134 N (L_M_few N n) a1 a2 a3 a4 a5 h
    | _, _, _, _, _, _, _ => none)
  | false => match Nat.beq pc 169 with
  | true => (match lk lv 0, lk lv 2, lk lv 3, lk lv 4, lk lv 5, st with
    | some (.inr (.inr (0, 12, 68))), some (.inl a2), some (.inl a3), some (.inl a4), some (.inl a5), [] => F_M_few_169 N (L_M_few N n) a2 a3 a4 a5 h
    | _, _, _, _, _, _ => none)
  | false => match Nat.beq pc 177 with
  | true => (match lk lv 0, lk lv 2, lk lv 3, lk lv 4, lk lv 5, lk lv 6, st with
    | some (.inr (.inr (0, 12, 68))), some (.inl a2), some (.inl a3), some (.inl a4), some (.inl a5), some (.inl a6), [] => F_M_few_177 N (L_M_few N n) a2 a3 a4 a5 a6 h
    | _, _, _, _, _, _, _ => none)
  | false => match Nat.beq pc 222 with
  | true => (match lk lv 0, lk lv 2, lk lv 3, lk lv 4, lk lv 5, lk lv 6, st with
    | some (.inr (.inr (0, 12, 68))), some (.inl a2), some (.inl a3), some (.inl a4), some (.inl a5), some (.inl a6), [.inl as0] => F_M_few_222 N (L_M_few N n) a2 a3 a4 a5 a6 as0 h
    | _, _, _, _, _, _, _ => none)
  | false => match Nat.beq pc 273 with
  | true => (match lk lv 0, lk lv 2, lk lv 3, lk lv 4, lk lv 5, lk lv 6, lk lv 7, st with
    | some (.inr (.inr (0, 12, 68))), some (.inl a2), some (.inl a3), some (.inl a4), some (.inl a5), some (.inl a6), some (.inl a7), [] => F_M_few_273 N (L_M_few N n) a2 a3 a4 a5 a6 a7 h
    | _, _, _, _, _, _, _, _ => none)
  | false => match Nat.beq pc 307 with
  | true => (match lk lv 0, lk lv 2, lk lv 4, lk lv 5, lk lv 6, st with
    | some (.inr (.inr (0, 12, 68))), some (.inl a2), some (.inl a4), some (.inl a5), some (.inl a6), [] => F_M_few_307 N (L_M_few N n) a2 a4 a5 a6 h
    | _, _, _, _, _, _ => none)
  | false => match Nat.beq pc 393 with
  | true => (match lk lv 0, lk lv 2, lk lv 6, lk lv 7, lk lv 8, lk lv 9, st with
    | some (.inr (.inr (0, 12, 68))), some (.inl a2), some (.inl a6), some (.inl a7), some (.inl a8), some (.inl a9), [] => F_M_few_393 N (L_M_few N n) a2 a6 a7 a8 a9 h
    | _, _, _, _, _, _, _ => none)
  | false => match Nat.beq pc 402 with
  | true => (match lk lv 0, lk lv 2, lk lv 6, lk lv 7, lk lv 8, lk lv 9, lk lv 10, st with
    | some (.inr (.inr (0, 12, 68))), some (.inl a2), some (.inl a6), some (.inl a7), some (.inl a8), some (.inl a9), some (.inl a10), [] => F_M_few_402 N (L_M_few N n) a2 a6 a7 a8 a9 a10 h
    | _, _, _, _, _, _, _, _ => none)
  | false => none
def B_M_few (N : Nat) (n pc : Nat) (lv : ML) (st : List MV) (h : MH) : Option (Int32 × MH) :=
  match Nat.beq pc 77 with
  | true => (match lk lv 0, lk lv 1, lk lv 2, lk lv 3, lk lv 4, lk lv 5, st with
    | some (.inr (.inr (0, 12, 68))), some (.inl a1), some (.inl a2), some (.inl a3), some (.inl a4), some (.inl a5), [] => ((L_M_few N n).1) a1 a2 a3 a4 a5 h
    | _, _, _, _, _, _, _ => none)
  | false => match Nat.beq pc 134 with
  | true => (match lk lv 0, lk lv 1, lk lv 2, lk lv 3, lk lv 4, lk lv 5, st with
    | some (.inr (.inr (0, 12, 68))), some (.inl a1), some (.inl a2), some (.inl a3), some (.inl a4), some (.inl a5), [] => ((L_M_few N n).2.1) a1 a2 a3 a4 a5 h
    | _, _, _, _, _, _, _ => none)
  | false => match Nat.beq pc 169 with
  | true => (match lk lv 0, lk lv 2, lk lv 3, lk lv 4, lk lv 5, st with
    | some (.inr (.inr (0, 12, 68))), some (.inl a2), some (.inl a3), some (.inl a4), some (.inl a5), [] => ((L_M_few N n).2.2.1) a2 a3 a4 a5 h
    | _, _, _, _, _, _ => none)
  | false => match Nat.beq pc 177 with
  | true => (match lk lv 0, lk lv 2, lk lv 3, lk lv 4, lk lv 5, lk lv 6, st with
    | some (.inr (.inr (0, 12, 68))), some (.inl a2), some (.inl a3), some (.inl a4), some (.inl a5), some (.inl a6), [] => ((L_M_few N n).2.2.2.1) a2 a3 a4 a5 a6 h
    | _, _, _, _, _, _, _ => none)
  | false => match Nat.beq pc 307 with
  | true => (match lk lv 0, lk lv 2, lk lv 4, lk lv 5, lk lv 6, st with
    | some (.inr (.inr (0, 12, 68))), some (.inl a2), some (.inl a4), some (.inl a5), some (.inl a6), [] => ((L_M_few N n).2.2.2.2.1) a2 a4 a5 a6 h
    | _, _, _, _, _, _ => none)
  | false => match Nat.beq pc 393 with
  | true => (match lk lv 0, lk lv 2, lk lv 6, lk lv 7, lk lv 8, lk lv 9, st with
    | some (.inr (.inr (0, 12, 68))), some (.inl a2), some (.inl a6), some (.inl a7), some (.inl a8), some (.inl a9), [] => ((L_M_few N n).2.2.2.2.2.1) a2 a6 a7 a8 a9 h
    | _, _, _, _, _, _, _ => none)
  | false => match Nat.beq pc 402 with
  | true => (match lk lv 0, lk lv 2, lk lv 6, lk lv 7, lk lv 8, lk lv 9, lk lv 10, st with
    | some (.inr (.inr (0, 12, 68))), some (.inl a2), some (.inl a6), some (.inl a7), some (.inl a8), some (.inl a9), some (.inl a10), [] => ((L_M_few N n).2.2.2.2.2.2) a2 a6 a7 a8 a9 a10 h
    | _, _, _, _, _, _, _, _ => none)
  | false => none
set_option maxRecDepth 1000000 in
theorem E_M_few_0 (N : Nat) (n : Nat) (a1 : Int32) (a2 : Int32) (a3 : Int32) (a4 : Int32) (h : MH) : seg (C_M_few N) 11 0 rI T_M_few [0, 77, 134, 169, 177, 222, 273, 307, 393, 402] (fun q lv st h => match Nat.ble 1 q with
    | true => D_M_few N n q lv st h
    | false => B_M_few N n q lv st h) 400 true 0 [(0, .inr (.inr (0, 12, 68))), (1, .inl a1), (2, .inl a2), (3, .inl a3), (4, .inl a4)] [] h = F_M_few_0 N (L_M_few N n) a1 a2 a3 a4 h := (rfl)
set_option maxRecDepth 1000000 in
theorem E_M_few_77 (N : Nat) (n : Nat) (a1 : Int32) (a2 : Int32) (a3 : Int32) (a4 : Int32) (a5 : Int32) (h : MH) : seg (C_M_few N) 11 0 rI T_M_few [0, 77, 134, 169, 177, 222, 273, 307, 393, 402] (fun q lv st h => match Nat.ble 78 q with
    | true => D_M_few N n q lv st h
    | false => B_M_few N n q lv st h) 400 true 77 [(0, .inr (.inr (0, 12, 68))), (1, .inl a1), (2, .inl a2), (3, .inl a3), (4, .inl a4), (5, .inl a5)] [] h = F_M_few_77 N (L_M_few N n) a1 a2 a3 a4 a5 h := (rfl)
set_option maxRecDepth 1000000 in
theorem E_M_few_134 (N : Nat) (n : Nat) (a1 : Int32) (a2 : Int32) (a3 : Int32) (a4 : Int32) (a5 : Int32) (h : MH) : seg (C_M_few N) 11 0 rI T_M_few [0, 77, 134, 169, 177, 222, 273, 307, 393, 402] (fun q lv st h => match Nat.ble 135 q with
    | true => D_M_few N n q lv st h
    | false => B_M_few N n q lv st h) 400 true 134 [(0, .inr (.inr (0, 12, 68))), (1, .inl a1), (2, .inl a2), (3, .inl a3), (4, .inl a4), (5, .inl a5)] [] h = F_M_few_134 N (L_M_few N n) a1 a2 a3 a4 a5 h := (rfl)
set_option maxRecDepth 1000000 in
theorem E_M_few_169 (N : Nat) (n : Nat) (a2 : Int32) (a3 : Int32) (a4 : Int32) (a5 : Int32) (h : MH) : seg (C_M_few N) 11 0 rI T_M_few [0, 77, 134, 169, 177, 222, 273, 307, 393, 402] (fun q lv st h => match Nat.ble 170 q with
    | true => D_M_few N n q lv st h
    | false => B_M_few N n q lv st h) 400 true 169 [(0, .inr (.inr (0, 12, 68))), (2, .inl a2), (3, .inl a3), (4, .inl a4), (5, .inl a5)] [] h = F_M_few_169 N (L_M_few N n) a2 a3 a4 a5 h := (rfl)
set_option maxRecDepth 1000000 in
theorem E_M_few_177 (N : Nat) (n : Nat) (a2 : Int32) (a3 : Int32) (a4 : Int32) (a5 : Int32) (a6 : Int32) (h : MH) : seg (C_M_few N) 11 0 rI T_M_few [0, 77, 134, 169, 177, 222, 273, 307, 393, 402] (fun q lv st h => match Nat.ble 178 q with
    | true => D_M_few N n q lv st h
    | false => B_M_few N n q lv st h) 400 true 177 [(0, .inr (.inr (0, 12, 68))), (2, .inl a2), (3, .inl a3), (4, .inl a4), (5, .inl a5), (6, .inl a6)] [] h = F_M_few_177 N (L_M_few N n) a2 a3 a4 a5 a6 h := (rfl)
set_option maxRecDepth 1000000 in
theorem E_M_few_222 (N : Nat) (n : Nat) (a2 : Int32) (a3 : Int32) (a4 : Int32) (a5 : Int32) (a6 : Int32) (as0 : Int32) (h : MH) : seg (C_M_few N) 11 0 rI T_M_few [0, 77, 134, 169, 177, 222, 273, 307, 393, 402] (fun q lv st h => match Nat.ble 223 q with
    | true => D_M_few N n q lv st h
    | false => B_M_few N n q lv st h) 400 true 222 [(0, .inr (.inr (0, 12, 68))), (2, .inl a2), (3, .inl a3), (4, .inl a4), (5, .inl a5), (6, .inl a6)] [.inl as0] h = F_M_few_222 N (L_M_few N n) a2 a3 a4 a5 a6 as0 h := (rfl)
set_option maxRecDepth 1000000 in
theorem E_M_few_273 (N : Nat) (n : Nat) (a2 : Int32) (a3 : Int32) (a4 : Int32) (a5 : Int32) (a6 : Int32) (a7 : Int32) (h : MH) : seg (C_M_few N) 11 0 rI T_M_few [0, 77, 134, 169, 177, 222, 273, 307, 393, 402] (fun q lv st h => match Nat.ble 274 q with
    | true => D_M_few N n q lv st h
    | false => B_M_few N n q lv st h) 400 true 273 [(0, .inr (.inr (0, 12, 68))), (2, .inl a2), (3, .inl a3), (4, .inl a4), (5, .inl a5), (6, .inl a6), (7, .inl a7)] [] h = F_M_few_273 N (L_M_few N n) a2 a3 a4 a5 a6 a7 h := (rfl)
set_option maxRecDepth 1000000 in
theorem E_M_few_307 (N : Nat) (n : Nat) (a2 : Int32) (a4 : Int32) (a5 : Int32) (a6 : Int32) (h : MH) : seg (C_M_few N) 11 0 rI T_M_few [0, 77, 134, 169, 177, 222, 273, 307, 393, 402] (fun q lv st h => match Nat.ble 308 q with
    | true => D_M_few N n q lv st h
    | false => B_M_few N n q lv st h) 400 true 307 [(0, .inr (.inr (0, 12, 68))), (2, .inl a2), (4, .inl a4), (5, .inl a5), (6, .inl a6)] [] h = F_M_few_307 N (L_M_few N n) a2 a4 a5 a6 h := (rfl)
set_option maxRecDepth 1000000 in
theorem E_M_few_393 (N : Nat) (n : Nat) (a2 : Int32) (a6 : Int32) (a7 : Int32) (a8 : Int32) (a9 : Int32) (h : MH) : seg (C_M_few N) 11 0 rI T_M_few [0, 77, 134, 169, 177, 222, 273, 307, 393, 402] (fun q lv st h => match Nat.ble 394 q with
    | true => D_M_few N n q lv st h
    | false => B_M_few N n q lv st h) 400 true 393 [(0, .inr (.inr (0, 12, 68))), (2, .inl a2), (6, .inl a6), (7, .inl a7), (8, .inl a8), (9, .inl a9)] [] h = F_M_few_393 N (L_M_few N n) a2 a6 a7 a8 a9 h := (rfl)
set_option maxRecDepth 1000000 in
theorem E_M_few_402 (N : Nat) (n : Nat) (a2 : Int32) (a6 : Int32) (a7 : Int32) (a8 : Int32) (a9 : Int32) (a10 : Int32) (h : MH) : seg (C_M_few N) 11 0 rI T_M_few [0, 77, 134, 169, 177, 222, 273, 307, 393, 402] (fun q lv st h => match Nat.ble 403 q with
    | true => D_M_few N n q lv st h
    | false => B_M_few N n q lv st h) 400 true 402 [(0, .inr (.inr (0, 12, 68))), (2, .inl a2), (6, .inl a6), (7, .inl a7), (8, .inl a8), (9, .inl a9), (10, .inl a10)] [] h = F_M_few_402 N (L_M_few N n) a2 a6 a7 a8 a9 a10 h := (rfl)
set_option maxRecDepth 1000000 in
theorem chk_M_few : chkT 12 false prog_14_method_91_code T_M_few = true := by decide +kernel
theorem mc_M_few : mC 253 = prog_14_method_91_code := by rfl
theorem mx_M_few : mL 253 = 11 ∧ mR 253 = some .int ∧ mK 253 = 1 ∧ (mN 253).cls = cN 12 := by decide +kernel
theorem hD_M_few (N : Nat) {r : Int32 × MH} : ∀ n pc lv st h, D_M_few N n pc lv st h = some r → ∃ lv', (∀ q ∈ lv', q ∈ lv) ∧ seg (C_M_few N) 11 0 rI T_M_few [0, 77, 134, 169, 177, 222, 273, 307, 393, 402] (fun q lv st h => match Nat.ble (pc + 1) q with
    | true => D_M_few N n q lv st h
    | false => B_M_few N n q lv st h) 400 true pc lv' st h = some r := by
  intro n pc lv st h hf
  unfold D_M_few at hf
  split at hf
  · rename_i hb
    have hb := Nat.eq_of_beq_eq_true hb
    subst hb
    split at hf
    · rename_i y0 y1 y2 y3 e0 e1 e2 e3 e4
      exact ⟨_, (sub_cons e0 (sub_cons e1 (sub_cons e2 (sub_cons e3 (sub_cons e4 sub_nil))))), (E_M_few_0 N n _ _ _ _ h).trans hf⟩
    · cases hf
  · skip
    split at hf
    · rename_i hb
      have hb := Nat.eq_of_beq_eq_true hb
      subst hb
      split at hf
      · rename_i y0 y1 y2 y3 y4 e0 e1 e2 e3 e4 e5
        exact ⟨_, (sub_cons e0 (sub_cons e1 (sub_cons e2 (sub_cons e3 (sub_cons e4 (sub_cons e5 sub_nil)))))), (E_M_few_77 N n _ _ _ _ _ h).trans hf⟩
      · cases hf
    · skip
      split at hf
      · rename_i hb
        have hb := Nat.eq_of_beq_eq_true hb
        subst hb
        split at hf
        · rename_i y0 y1 y2 y3 y4 e0 e1 e2 e3 e4 e5
          exact ⟨_, (sub_cons e0 (sub_cons e1 (sub_cons e2 (sub_cons e3 (sub_cons e4 (sub_cons e5 sub_nil)))))), (E_M_few_134 N n _ _ _ _ _ h).trans hf⟩
        · cases hf
      · skip
        split at hf
        · rename_i hb
          have hb := Nat.eq_of_beq_eq_true hb
          subst hb
          split at hf
          · rename_i y0 y1 y2 y3 e0 e1 e2 e3 e4
            exact ⟨_, (sub_cons e0 (sub_cons e1 (sub_cons e2 (sub_cons e3 (sub_cons e4 sub_nil))))), (E_M_few_169 N n _ _ _ _ h).trans hf⟩
          · cases hf
        · skip
          split at hf
          · rename_i hb
            have hb := Nat.eq_of_beq_eq_true hb
            subst hb
            split at hf
            · rename_i y0 y1 y2 y3 y4 e0 e1 e2 e3 e4 e5
              exact ⟨_, (sub_cons e0 (sub_cons e1 (sub_cons e2 (sub_cons e3 (sub_cons e4 (sub_cons e5 sub_nil)))))), (E_M_few_177 N n _ _ _ _ _ h).trans hf⟩
            · cases hf
          · skip
            split at hf
            · rename_i hb
              have hb := Nat.eq_of_beq_eq_true hb
              subst hb
              split at hf
              · rename_i y0 y1 y2 y3 y4 y5 e0 e1 e2 e3 e4 e5
                exact ⟨_, (sub_cons e0 (sub_cons e1 (sub_cons e2 (sub_cons e3 (sub_cons e4 (sub_cons e5 sub_nil)))))), (E_M_few_222 N n _ _ _ _ _ _ h).trans hf⟩
              · cases hf
            · skip
              split at hf
              · rename_i hb
                have hb := Nat.eq_of_beq_eq_true hb
                subst hb
                split at hf
                · rename_i y0 y1 y2 y3 y4 y5 e0 e1 e2 e3 e4 e5 e6
                  exact ⟨_, (sub_cons e0 (sub_cons e1 (sub_cons e2 (sub_cons e3 (sub_cons e4 (sub_cons e5 (sub_cons e6 sub_nil))))))), (E_M_few_273 N n _ _ _ _ _ _ h).trans hf⟩
                · cases hf
              · skip
                split at hf
                · rename_i hb
                  have hb := Nat.eq_of_beq_eq_true hb
                  subst hb
                  split at hf
                  · rename_i y0 y1 y2 y3 e0 e1 e2 e3 e4
                    exact ⟨_, (sub_cons e0 (sub_cons e1 (sub_cons e2 (sub_cons e3 (sub_cons e4 sub_nil))))), (E_M_few_307 N n _ _ _ _ h).trans hf⟩
                  · cases hf
                · skip
                  split at hf
                  · rename_i hb
                    have hb := Nat.eq_of_beq_eq_true hb
                    subst hb
                    split at hf
                    · rename_i y0 y1 y2 y3 y4 e0 e1 e2 e3 e4 e5
                      exact ⟨_, (sub_cons e0 (sub_cons e1 (sub_cons e2 (sub_cons e3 (sub_cons e4 (sub_cons e5 sub_nil)))))), (E_M_few_393 N n _ _ _ _ _ h).trans hf⟩
                    · cases hf
                  · skip
                    split at hf
                    · rename_i hb
                      have hb := Nat.eq_of_beq_eq_true hb
                      subst hb
                      split at hf
                      · rename_i y0 y1 y2 y3 y4 y5 e0 e1 e2 e3 e4 e5 e6
                        exact ⟨_, (sub_cons e0 (sub_cons e1 (sub_cons e2 (sub_cons e3 (sub_cons e4 (sub_cons e5 (sub_cons e6 sub_nil))))))), (E_M_few_402 N n _ _ _ _ _ _ h).trans hf⟩
                      · cases hf
                    · skip
                      cases hf
theorem hM_M_few (N : Nat) {r : Int32 × MH} : ∀ n pc lv st h, D_M_few N n pc lv st h = some r → pc < 471 := by
  intro n pc lv st h hf
  unfold D_M_few at hf
  split at hf
  · rename_i hb
    rw [Nat.eq_of_beq_eq_true hb]
    decide
  · skip
    split at hf
    · rename_i hb
      rw [Nat.eq_of_beq_eq_true hb]
      decide
    · skip
      split at hf
      · rename_i hb
        rw [Nat.eq_of_beq_eq_true hb]
        decide
      · skip
        split at hf
        · rename_i hb
          rw [Nat.eq_of_beq_eq_true hb]
          decide
        · skip
          split at hf
          · rename_i hb
            rw [Nat.eq_of_beq_eq_true hb]
            decide
          · skip
            split at hf
            · rename_i hb
              rw [Nat.eq_of_beq_eq_true hb]
              decide
            · skip
              split at hf
              · rename_i hb
                rw [Nat.eq_of_beq_eq_true hb]
                decide
              · skip
                split at hf
                · rename_i hb
                  rw [Nat.eq_of_beq_eq_true hb]
                  decide
                · skip
                  split at hf
                  · rename_i hb
                    rw [Nat.eq_of_beq_eq_true hb]
                    decide
                  · skip
                    split at hf
                    · rename_i hb
                      rw [Nat.eq_of_beq_eq_true hb]
                      decide
                    · skip
                      cases hf
theorem hB_M_few (N : Nat) {r : Int32 × MH} : ∀ n pc lv st h, B_M_few N n pc lv st h = some r → ∃ k, n = k + 1 ∧ D_M_few N k pc lv st h = some r := by
  intro n pc lv st h hf
  unfold B_M_few at hf
  split at hf
  · rename_i hb
    have hb := Nat.eq_of_beq_eq_true hb
    subst hb
    cases n with
    | zero =>
      split at hf
      · cases hf
      · cases hf
    | succ k =>
      refine ⟨k, rfl, ?_⟩
      exact hf
  · skip
    split at hf
    · rename_i hb
      have hb := Nat.eq_of_beq_eq_true hb
      subst hb
      cases n with
      | zero =>
        split at hf
        · cases hf
        · cases hf
      | succ k =>
        refine ⟨k, rfl, ?_⟩
        exact hf
    · skip
      split at hf
      · rename_i hb
        have hb := Nat.eq_of_beq_eq_true hb
        subst hb
        cases n with
        | zero =>
          split at hf
          · cases hf
          · cases hf
        | succ k =>
          refine ⟨k, rfl, ?_⟩
          exact hf
      · skip
        split at hf
        · rename_i hb
          have hb := Nat.eq_of_beq_eq_true hb
          subst hb
          cases n with
          | zero =>
            split at hf
            · cases hf
            · cases hf
          | succ k =>
            refine ⟨k, rfl, ?_⟩
            exact hf
        · skip
          split at hf
          · rename_i hb
            have hb := Nat.eq_of_beq_eq_true hb
            subst hb
            cases n with
            | zero =>
              split at hf
              · cases hf
              · cases hf
            | succ k =>
              refine ⟨k, rfl, ?_⟩
              exact hf
          · skip
            split at hf
            · rename_i hb
              have hb := Nat.eq_of_beq_eq_true hb
              subst hb
              cases n with
              | zero =>
                split at hf
                · cases hf
                · cases hf
              | succ k =>
                refine ⟨k, rfl, ?_⟩
                exact hf
            · skip
              split at hf
              · rename_i hb
                have hb := Nat.eq_of_beq_eq_true hb
                subst hb
                cases n with
                | zero =>
                  split at hf
                  · cases hf
                  · cases hf
                | succ k =>
                  refine ⟨k, rfl, ?_⟩
                  exact hf
              · skip
                cases hf
theorem s_M_few {l : Launch} {E : EV} {N : Nat} {as : List MV} {h : MH} {r : Int32 × MH} (hf : w_M_few (f_M_few N) as h = some r) : SndM l E false 1 253 as h (some (.inl r.1)) r.2 := by
  unfold w_M_few at hf
  split at hf
  · obtain ⟨m1, m2, m3, m4⟩ := mx_M_few
    refine snd_of (C := C_M_few N) (own := 12) (rz := 0) (lim := 115) rI_eq m2 m4 pl_253 (TB_in _ cw_253 rfl) ⟨(fun _ => ⟨_, _, _, _, _, _, rfl, rfl, by rw [m4]; rfl⟩), (fun z => by rw [m3] at z; cases z)⟩ (fun z => by cases z) KDL_take rfl rfl (fun z => by cases z) (fun z => by cases z) (fun _ => rfl) (by rw [m1]; exact Nat.le_of_ble_eq_true rfl)
      (fun j as h x z => by
      dsimp only [C_M_few] at z
      cases hb : Nat.beq j 168 with
      | true =>
        have hb := Nat.eq_of_beq_eq_true hb
        subst hb
        exact ⟨0, by decide, (fun z => by cases z), s_M_refuse z⟩
      | false =>
        rw [hb] at z
        dsimp only at z
        cases hb : Nat.beq j 169 with
        | true =>
          have hb := Nat.eq_of_beq_eq_true hb
          subst hb
          exact ⟨0, by decide, (fun z => by cases z), s_M_gives z⟩
        | false =>
          rw [hb] at z
          dsimp only at z
          cases hb : Nat.beq j 171 with
          | true =>
            have hb := Nat.eq_of_beq_eq_true hb
            subst hb
            exact ⟨0, by decide, (fun z => by cases z), s_M_isTray z⟩
          | false =>
            rw [hb] at z
            dsimp only at z
            cases hb : Nat.beq j 261 with
            | true =>
              have hb := Nat.eq_of_beq_eq_true hb
              subst hb
              exact ⟨0, by decide, (fun z => by cases z), s_Math_min_II z⟩
            | false =>
              rw [hb] at z
              dsimp only at z
              cases z)
      (fun _ _ _ _ z => by cases z)
      (fun _ _ _ _ z => by cases z)
      (fun _ _ _ _ z => by cases z)
      (fun p e R s m args below meth c Q n0 F hret => ?_)
    rw [m1] at F hret ⊢
    rw [mc_M_few] at F hret
    exact cuts_s (K := 400) (M := 471) (D := D_M_few N) (B := B_M_few N) F hret (chkT_ok chk_M_few) (hM_M_few N) (hB_M_few N) (hD_M_few N) N 0 _ _ _ hf
  · cases hf
def T_M_fewOf : List (List (Option RW)) := [
  [some (.iload_n 1, 1, [1], 0, 0), some (.ifCond .ge 11, 3, [12], 0, 0), none, none, some (.aload_n 0, 1, [0], 0, 0), some (.iconst 1, 1, [], 1, 0), some (.invokevirtual 342, 3, [0, 168, 2, 0], 0, 0), none, none, some (.goto 30, 3, [39], 0, 0), none, none, some (.iload_n 1, 1, [1], 0, 0), some (.aload_n 0, 1, [0], 0, 0), some (.getfield 490, 3, [12, 83, 0], 0, 0), none, none, some (.if_icmp .lt 12, 3, [29], 0, 0), none, none, some (.aload_n 0, 1, [0], 0, 0), some (.bipush 6, 2, [], 6, 0), none, some (.invokevirtual 342, 3, [0, 168, 2, 0], 0, 0), none, none, some (.goto 13, 3, [39], 0, 0), none, none, some (.aload_n 0, 1, [0], 0, 0), some (.aload_n 0, 1, [0], 0, 0), some (.getfield 168, 3, [12, 82, 2, 1, 8, 46], 0, 0)],
  [none, none, some (.iload_n 1, 1, [1], 0, 0), some (.iaload, 1, [], 0, 0), some (.invokevirtual 180, 3, [0, 169, 2, 0], 0, 0), none, none, some (.ireturn, 1, [], 0, 0)]]
def f_M_fewOf (N : Nat) (a1 : Int32) (h : MH) : Option (Int32 × MH) :=
  if 0 ≤ a1 then
  (if a1 < (gI h 68 83) then
  (if inB a1 8 = true then
  ((f_M_gives N (gI h 114 (iN a1)) h).bind (fun x1 =>
  some (x1.1, x1.2)))
  else none)
  else
  ((f_M_refuse N 6 h).bind (fun x2 =>
  some (x2.1, x2.2))))
  else
  ((f_M_refuse N 1 h).bind (fun x3 =>
  some (x3.1, x3.2)))
def C_M_fewOf (N : Nat) : MC := (KDL, false, (fun _ => 0), jsB, (fun j => match Nat.beq j 168 with
    | true => w_M_refuse (f_M_refuse N)
    | false => match Nat.beq j 169 with
    | true => w_M_gives (f_M_gives N)
    | false => fun _ _ => none), (fun _ _ _ => none), (fun _ _ _ => none), (fun _ _ _ => none))
def D_M_fewOf (N : Nat) (n pc : Nat) (lv : ML) (st : List MV) (h : MH) : Option (Int32 × MH) :=
  match Nat.beq pc 0 with
  | true => (match lk lv 0, lk lv 1, st with
    | some (.inr (.inr (0, 12, 68))), some (.inl a1), [] => f_M_fewOf N a1 h
    | _, _, _ => none)
  | false => none
set_option maxRecDepth 1000000 in
theorem E_M_fewOf_0 (N : Nat) (n : Nat) (a1 : Int32) (h : MH) : seg (C_M_fewOf N) 2 0 rI T_M_fewOf [0] (fun q lv st h => match Nat.ble 1 q with
    | true => D_M_fewOf N n q lv st h
    | false => none) 400 true 0 [(0, .inr (.inr (0, 12, 68))), (1, .inl a1)] [] h = f_M_fewOf N a1 h := (rfl)
set_option maxRecDepth 1000000 in
theorem chk_M_fewOf : chkT 12 false prog_14_method_92_code T_M_fewOf = true := by decide +kernel
theorem mc_M_fewOf : mC 254 = prog_14_method_92_code := by rfl
theorem mx_M_fewOf : mL 254 = 2 ∧ mR 254 = some .int ∧ mK 254 = 1 ∧ (mN 254).cls = cN 12 := by decide +kernel
theorem hD_M_fewOf (N : Nat) {r : Int32 × MH} : ∀ n pc lv st h, D_M_fewOf N n pc lv st h = some r → ∃ lv', (∀ q ∈ lv', q ∈ lv) ∧ seg (C_M_fewOf N) 2 0 rI T_M_fewOf [0] (fun q lv st h => match Nat.ble (pc + 1) q with
    | true => D_M_fewOf N n q lv st h
    | false => none) 400 true pc lv' st h = some r := by
  intro n pc lv st h hf
  unfold D_M_fewOf at hf
  split at hf
  · rename_i hb
    have hb := Nat.eq_of_beq_eq_true hb
    subst hb
    split at hf
    · rename_i y0 e0 e1
      exact ⟨_, (sub_cons e0 (sub_cons e1 sub_nil)), (E_M_fewOf_0 N n _ h).trans hf⟩
    · cases hf
  · skip
    cases hf
theorem hM_M_fewOf (N : Nat) {r : Int32 × MH} : ∀ n pc lv st h, D_M_fewOf N n pc lv st h = some r → pc < 40 := by
  intro n pc lv st h hf
  unfold D_M_fewOf at hf
  split at hf
  · rename_i hb
    rw [Nat.eq_of_beq_eq_true hb]
    decide
  · skip
    cases hf
theorem s_M_fewOf {l : Launch} {E : EV} {N : Nat} {as : List MV} {h : MH} {r : Int32 × MH} (hf : w_M_fewOf (f_M_fewOf N) as h = some r) : SndM l E false 1 254 as h (some (.inl r.1)) r.2 := by
  unfold w_M_fewOf at hf
  split at hf
  · obtain ⟨m1, m2, m3, m4⟩ := mx_M_fewOf
    refine snd_of (C := C_M_fewOf N) (own := 12) (rz := 0) (lim := 115) rI_eq m2 m4 pl_254 (TB_in _ cw_254 rfl) ⟨(fun _ => ⟨_, _, _, _, _, _, rfl, rfl, by rw [m4]; rfl⟩), (fun z => by rw [m3] at z; cases z)⟩ (fun z => by cases z) KDL_take rfl rfl (fun z => by cases z) (fun z => by cases z) (fun _ => rfl) (by rw [m1]; exact Nat.le_of_ble_eq_true rfl)
      (fun j as h x z => by
      dsimp only [C_M_fewOf] at z
      cases hb : Nat.beq j 168 with
      | true =>
        have hb := Nat.eq_of_beq_eq_true hb
        subst hb
        exact ⟨0, by decide, (fun z => by cases z), s_M_refuse z⟩
      | false =>
        rw [hb] at z
        dsimp only at z
        cases hb : Nat.beq j 169 with
        | true =>
          have hb := Nat.eq_of_beq_eq_true hb
          subst hb
          exact ⟨0, by decide, (fun z => by cases z), s_M_gives z⟩
        | false =>
          rw [hb] at z
          dsimp only at z
          cases z)
      (fun _ _ _ _ z => by cases z)
      (fun _ _ _ _ z => by cases z)
      (fun _ _ _ _ z => by cases z)
      (fun p e R s m args below meth c Q n0 F hret => ?_)
    rw [m1] at F hret ⊢
    rw [mc_M_fewOf] at F hret
    exact cuts_s (K := 400) (M := 40) (D := D_M_fewOf N) (B := fun _ _ _ _ _ => none) F hret (chkT_ok chk_M_fewOf) (hM_M_fewOf N) (fun _ _ _ _ _ z => by cases z) (hD_M_fewOf N) N 0 _ _ _ hf
  · cases hf
