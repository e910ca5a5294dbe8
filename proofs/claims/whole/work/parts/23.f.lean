def T_M_mark : List (List (Option RW)) := [
  [some (.aload_n 0, 1, [0], 0, 0), some (.invokevirtual 263, 3, [0, 183, 1, 3], 0, 0), none, none, some (.aload_n 0, 1, [0], 0, 0), some (.invokevirtual 278, 3, [0, 190, 1, 1], 0, 0), none, none, some (.lstore_n 1, 1, [1], 0, 0), some (.lload_n 1, 1, [1], 0, 0), some (.ldc2_w 199, 3, [], 0, (-1)), none, none, some (.lcmp, 1, [], 0, 0), some (.ifCond .ne 9, 3, [23], 0, 0), none, none, some (.aload_n 0, 1, [0], 0, 0), some (.iconst 2, 1, [], 2, 0), some (.invokevirtual 260, 3, [0, 186, 2, 0], 0, 0), none, none, some (.ireturn, 1, [], 0, 0), some (.aload_n 0, 1, [0], 0, 0), some (.lload_n 1, 1, [1], 0, 0), some (.invokevirtual 282, 3, [0, 191, 2, 0], 0, 0), none, none, some (.iconst (-1), 1, [], (-1), 0), some (.if_icmp .ne 12, 3, [41], 0, 0), none, none],
  [some (.aload_n 0, 1, [0], 0, 0), some (.lload_n 1, 1, [1], 0, 0), some (.invokevirtual 289, 3, [0, 192, 2, 0], 0, 0), none, none, some (.iconst (-1), 1, [], (-1), 0), some (.if_icmp .eq 9, 3, [47], 0, 0), none, none, some (.aload_n 0, 1, [0], 0, 0), some (.iconst 3, 1, [], 3, 0), some (.invokevirtual 260, 3, [0, 186, 2, 0], 0, 0), none, none, some (.ireturn, 1, [], 0, 0), some (.aload_n 0, 1, [0], 0, 0), some (.getfield 272, 3, [12, 30, 0], 0, 0), none, none, some (.bipush 8, 2, [], 8, 0), none, some (.if_icmp .ne 10, 3, [63], 0, 0), none, none, some (.aload_n 0, 1, [0], 0, 0), some (.bipush 6, 2, [], 6, 0), none, some (.invokevirtual 260, 3, [0, 186, 2, 0], 0, 0), none, none, some (.ireturn, 1, [], 0, 0), some (.aload_n 0, 1, [0], 0, 0)],
  [some (.invokevirtual 263, 3, [0, 183, 1, 3], 0, 0), none, none, some (.aload_n 0, 1, [0], 0, 0), some (.invokevirtual 298, 3, [0, 189, 1, 0], 0, 0), none, none, some (.ifCond .ne 5, 3, [76], 0, 0), none, none, some (.iconst 0, 1, [], 0, 0), some (.ireturn, 1, [], 0, 0), some (.aload_n 0, 1, [0], 0, 0), some (.getfield 41, 3, [12, 18, 2, 2, 8, 7], 0, 0), none, none, some (.aload_n 0, 1, [0], 0, 0), some (.getfield 272, 3, [12, 30, 0], 0, 0), none, none, some (.lload_n 1, 1, [1], 0, 0), some (.lastore, 1, [], 0, 0), some (.aload_n 0, 1, [0], 0, 0), some (.dup, 1, [], 0, 0), some (.getfield 272, 3, [12, 30, 0], 0, 0), none, none, some (.iconst 1, 1, [], 1, 0), some (.iadd, 1, [], 0, 0), some (.putfield 272, 3, [12, 30, 0], 0, 0), none, none],
  [some (.iconst 1, 1, [], 1, 0), some (.ireturn, 1, [], 0, 0)]]
def f_M_mark (N : Nat) (h : MH) : Option (Int32 × MH) :=
  (f_M_next N h).bind (fun x1 =>
  (f_M_nameHere N x1).bind (fun x2 =>
  if (lg_cmp x2.1 ((-1))) = 0 then
  ((f_M_fails N 2 x2.2).bind (fun x3 =>
  match narOK 1 x3.1 with
  | true => some (x3.1, x3.2)
  | false => none))
  else
  ((f_M_sheetOf N x2.1 x2.2).bind (fun x4 =>
  if x4.1 = ((-1)) then
  ((f_M_markOf N x2.1 x4.2).bind (fun x5 =>
  if x5.1 = ((-1)) then
  (if (gI x5.2 68 30) = 8 then
  ((f_M_fails N 6 x5.2).bind (fun x6 =>
  match narOK 1 x6.1 with
  | true => some (x6.1, x6.2)
  | false => none))
  else
  ((f_M_next N x5.2).bind (fun x7 =>
  (f_M_wantEnd N x7).bind (fun x8 =>
  if x8.1 = 0 then
  (some (0, x8.2))
  else
  (if inB (gI x8.2 68 30) 8 = true then
  (let h9 : MH := sJ x8.2 75 (iN (gI x8.2 68 30)) x2.1
  let h10 : MH := sI h9 68 30 ((gI h9 68 30) + 1)
  some (1, h10))
  else none)))))
  else
  ((f_M_fails N 3 x5.2).bind (fun x11 =>
  match narOK 1 x11.1 with
  | true => some (x11.1, x11.2)
  | false => none))))
  else
  ((f_M_fails N 3 x4.2).bind (fun x12 =>
  match narOK 1 x12.1 with
  | true => some (x12.1, x12.2)
  | false => none))))))
def C_M_mark (N : Nat) : MC := (KDL, false, (fun _ => 0), jsB, (fun j => match Nat.beq j 186 with
    | true => w_M_fails (f_M_fails N)
    | false => match Nat.beq j 189 with
    | true => w_M_wantEnd (f_M_wantEnd N)
    | false => match Nat.beq j 191 with
    | true => w_M_sheetOf (f_M_sheetOf N)
    | false => match Nat.beq j 192 with
    | true => w_M_markOf (f_M_markOf N)
    | false => fun _ _ => none), (fun j => match Nat.beq j 190 with
    | true => w_M_nameHere (f_M_nameHere N)
    | false => fun _ _ => none), (fun _ _ _ => none), (fun j => match Nat.beq j 183 with
    | true => w_M_next (f_M_next N)
    | false => fun _ _ => none))
def D_M_mark (N : Nat) (n pc : Nat) (lv : ML) (st : List MV) (h : MH) : Option (Int32 × MH) :=
  match Nat.beq pc 0 with
  | true => (match lk lv 0, st with
    | some (.inr (.inr (0, 12, 68))), [] => f_M_mark N h
    | _, _ => none)
  | false => none
set_option maxRecDepth 1000000 in
theorem E_M_mark_0 (N : Nat) (n : Nat) (h : MH) : seg (C_M_mark N) 3 1 rI T_M_mark [0] (fun q lv st h => match Nat.ble 1 q with
    | true => D_M_mark N n q lv st h
    | false => none) 400 true 0 [(0, .inr (.inr (0, 12, 68)))] [] h = f_M_mark N h := (rfl)
set_option maxRecDepth 1000000 in
theorem chk_M_mark : chkT 12 false prog_14_method_34_code T_M_mark = true := by decide +kernel
theorem mc_M_mark : mC 196 = prog_14_method_34_code := by rfl
theorem mx_M_mark : mL 196 = 3 ∧ mR 196 = some .boolean ∧ mK 196 = 1 ∧ (mN 196).cls = cN 12 := by decide +kernel
theorem hD_M_mark (N : Nat) {r : Int32 × MH} : ∀ n pc lv st h, D_M_mark N n pc lv st h = some r → ∃ lv', (∀ q ∈ lv', q ∈ lv) ∧ seg (C_M_mark N) 3 1 rI T_M_mark [0] (fun q lv st h => match Nat.ble (pc + 1) q with
    | true => D_M_mark N n q lv st h
    | false => none) 400 true pc lv' st h = some r := by
  intro n pc lv st h hf
  unfold D_M_mark at hf
  split at hf
  · rename_i hb
    have hb := Nat.eq_of_beq_eq_true hb
    subst hb
    split at hf
    · rename_i e0
      exact ⟨_, (sub_cons e0 sub_nil), (E_M_mark_0 N n h).trans hf⟩
    · cases hf
  · skip
    cases hf
theorem hM_M_mark (N : Nat) {r : Int32 × MH} : ∀ n pc lv st h, D_M_mark N n pc lv st h = some r → pc < 98 := by
  intro n pc lv st h hf
  unfold D_M_mark at hf
  split at hf
  · rename_i hb
    rw [Nat.eq_of_beq_eq_true hb]
    decide
  · skip
    cases hf
theorem s_M_mark {l : Launch} {E : EV} {N : Nat} {as : List MV} {h : MH} {r : Int32 × MH} (hf : w_M_mark (f_M_mark N) as h = some r) : SndM l E false 6 196 as h (some (.inl r.1)) r.2 := by
  unfold w_M_mark at hf
  split at hf
  · obtain ⟨m1, m2, m3, m4⟩ := mx_M_mark
    refine snd_of (C := C_M_mark N) (own := 12) (rz := 1) (lim := 115) rI_eq m2 m4 pl_196 (TB_in _ cw_196 rfl) ⟨(fun _ => ⟨_, _, _, _, _, _, rfl, rfl, by rw [m4]; rfl⟩), (fun z => by rw [m3] at z; cases z)⟩ (fun z => by cases z) KDL_take rfl rfl (fun z => by cases z) (fun z => by cases z) (fun _ => rfl) (by rw [m1]; exact Nat.le_of_ble_eq_true rfl)
      (fun j as h x z => by
      dsimp only [C_M_mark] at z
      cases hb : Nat.beq j 186 with
      | true =>
        have hb := Nat.eq_of_beq_eq_true hb
        subst hb
        exact ⟨1, by decide, (fun z => by cases z), s_M_fails z⟩
      | false =>
        rw [hb] at z
        dsimp only at z
        cases hb : Nat.beq j 189 with
        | true =>
          have hb := Nat.eq_of_beq_eq_true hb
          subst hb
          exact ⟨2, by decide, (fun z => by cases z), s_M_wantEnd z⟩
        | false =>
          rw [hb] at z
          dsimp only at z
          cases hb : Nat.beq j 191 with
          | true =>
            have hb := Nat.eq_of_beq_eq_true hb
            subst hb
            exact ⟨0, by decide, (fun z => by cases z), s_M_sheetOf z⟩
          | false =>
            rw [hb] at z
            dsimp only at z
            cases hb : Nat.beq j 192 with
            | true =>
              have hb := Nat.eq_of_beq_eq_true hb
              subst hb
              exact ⟨0, by decide, (fun z => by cases z), s_M_markOf z⟩
            | false =>
              rw [hb] at z
              dsimp only at z
              cases z)
      (fun j as h x z => by
      dsimp only [C_M_mark] at z
      cases hb : Nat.beq j 190 with
      | true =>
        have hb := Nat.eq_of_beq_eq_true hb
        subst hb
        exact ⟨5, by decide, (fun z => by cases z), s_M_nameHere z⟩
      | false =>
        rw [hb] at z
        dsimp only at z
        cases z)
      (fun _ _ _ _ z => by cases z)
      (fun j as h x z => by
      dsimp only [C_M_mark] at z
      cases hb : Nat.beq j 183 with
      | true =>
        have hb := Nat.eq_of_beq_eq_true hb
        subst hb
        exact ⟨1, by decide, (fun z => by cases z), s_M_next z⟩
      | false =>
        rw [hb] at z
        dsimp only at z
        cases z)
      (fun p e R s m args below meth c Q n0 F hret => ?_)
    rw [m1] at F hret ⊢
    rw [mc_M_mark] at F hret
    exact cuts_s (K := 400) (M := 98) (D := D_M_mark N) (B := fun _ _ _ _ _ => none) F hret (chkT_ok chk_M_mark) (hM_M_mark N) (fun _ _ _ _ _ z => by cases z) (hD_M_mark N) N 0 _ _ _ hf
  · cases hf
def T_M_near : List (List (Option RW)) := [
  [some (.aload_n 0, 1, [0], 0, 0), some (.getfield 217, 3, [12, 11, 0], 0, 0), none, none, some (.istore_n 1, 1, [1], 0, 0), some (.aload_n 0, 1, [0], 0, 0), some (.invokevirtual 263, 3, [0, 183, 1, 3], 0, 0), none, none, some (.aload_n 0, 1, [0], 0, 0), some (.invokevirtual 302, 3, [0, 194, 1, 0], 0, 0), none, none, some (.ifCond .ne 5, 3, [18], 0, 0), none, none, some (.iconst 0, 1, [], 0, 0), some (.ireturn, 1, [], 0, 0), some (.aload_n 0, 1, [0], 0, 0), some (.getfield 275, 3, [12, 39, 0], 0, 0), none, none, some (.istore_n 2, 1, [2], 0, 0), some (.aload_n 0, 1, [0], 0, 0), some (.invokevirtual 278, 3, [0, 190, 1, 1], 0, 0), none, none, some (.lstore_n 3, 1, [3], 0, 0), some (.lload_n 3, 1, [3], 0, 0), some (.ldc2_w 199, 3, [], 0, (-1)), none, none],
  [some (.lcmp, 1, [], 0, 0), some (.ifCond .ne 9, 3, [42], 0, 0), none, none, some (.aload_n 0, 1, [0], 0, 0), some (.iconst 2, 1, [], 2, 0), some (.invokevirtual 260, 3, [0, 186, 2, 0], 0, 0), none, none, some (.ireturn, 1, [], 0, 0), some (.aload_n 0, 1, [0], 0, 0), some (.lload_n 3, 1, [3], 0, 0), some (.invokevirtual 282, 3, [0, 191, 2, 0], 0, 0), none, none, some (.istore 5, 2, [5], 0, 0), none, some (.iload 5, 2, [5], 0, 0), none, some (.iconst (-1), 1, [], (-1), 0), some (.if_icmp .ne 9, 3, [61], 0, 0), none, none, some (.aload_n 0, 1, [0], 0, 0), some (.iconst 3, 1, [], 3, 0), some (.invokevirtual 260, 3, [0, 186, 2, 0], 0, 0), none, none, some (.ireturn, 1, [], 0, 0), some (.aload_n 0, 1, [0], 0, 0), some (.invokevirtual 263, 3, [0, 183, 1, 3], 0, 0), none],
  [none, some (.aload_n 0, 1, [0], 0, 0), some (.getfield 223, 3, [12, 10, 0], 0, 0), none, none, some (.iconst 3, 1, [], 3, 0), some (.if_icmp .ne 39, 3, [109], 0, 0), none, none, some (.aload_n 0, 1, [0], 0, 0), some (.getfield 220, 3, [12, 13, 0], 0, 0), none, none, some (.aload_n 0, 1, [0], 0, 0), some (.getfield 47, 3, [12, 20, 2, 1, 6, 9], 0, 0), none, none, some (.iload 5, 2, [5], 0, 0), none, some (.iaload, 1, [], 0, 0), some (.if_icmp .ge 25, 3, [109], 0, 0), none, none, some (.aload_n 0, 1, [0], 0, 0), some (.getfield 44, 3, [12, 19, 2, 1, 6, 8], 0, 0), none, none, some (.iload 5, 2, [5], 0, 0), none, some (.iaload, 1, [], 0, 0), some (.aload_n 0, 1, [0], 0, 0), some (.getfield 220, 3, [12, 13, 0], 0, 0)],
  [none, none, some (.iadd, 1, [], 0, 0), some (.iload_n 2, 1, [2], 0, 0), some (.if_icmp .ne 9, 3, [109], 0, 0), none, none, some (.aload_n 0, 1, [0], 0, 0), some (.iconst 4, 1, [], 4, 0), some (.invokevirtual 260, 3, [0, 186, 2, 0], 0, 0), none, none, some (.ireturn, 1, [], 0, 0), some (.aload_n 0, 1, [0], 0, 0), some (.iconst 0, 1, [], 0, 0), some (.aload_n 0, 1, [0], 0, 0), some (.getfield 47, 3, [12, 20, 2, 1, 6, 9], 0, 0), none, none, some (.iload 5, 2, [5], 0, 0), none, some (.iaload, 1, [], 0, 0), some (.iconst 1, 1, [], 1, 0), some (.isub, 1, [], 0, 0), some (.invokevirtual 286, 3, [0, 193, 3, 0], 0, 0), none, none, some (.ifCond .ne 5, 3, [128], 0, 0), none, none, some (.iconst 0, 1, [], 0, 0), some (.ireturn, 1, [], 0, 0)],
  [some (.aload_n 0, 1, [0], 0, 0), some (.getfield 44, 3, [12, 19, 2, 1, 6, 8], 0, 0), none, none, some (.iload 5, 2, [5], 0, 0), none, some (.iaload, 1, [], 0, 0), some (.aload_n 0, 1, [0], 0, 0), some (.getfield 275, 3, [12, 39, 0], 0, 0), none, none, some (.iadd, 1, [], 0, 0), some (.istore 6, 2, [6], 0, 0), none, some (.aload_n 0, 1, [0], 0, 0), some (.invokevirtual 298, 3, [0, 189, 1, 0], 0, 0), none, none, some (.ifCond .ne 5, 3, [151], 0, 0), none, none, some (.iconst 0, 1, [], 0, 0), some (.ireturn, 1, [], 0, 0), some (.aload_n 0, 1, [0], 0, 0), some (.getfield 62, 3, [12, 25, 2, 4, 36, 14], 0, 0), none, none, some (.bipush 6, 2, [], 6, 0), none, some (.iload_n 2, 1, [2], 0, 0), some (.imul, 1, [], 0, 0), some (.iload 6, 2, [6], 0, 0)],
  [none, some (.iadd, 1, [], 0, 0), some (.baload, 1, [], 0, 0), some (.ifCond .eq 11, 3, [174], 0, 0), none, none, some (.aload_n 0, 1, [0], 0, 0), some (.bipush 6, 2, [], 6, 0), none, some (.iload_n 1, 1, [1], 0, 0), some (.invokevirtual 250, 3, [0, 187, 3, 0], 0, 0), none, none, some (.ireturn, 1, [], 0, 0), some (.aload_n 0, 1, [0], 0, 0), some (.getfield 62, 3, [12, 25, 2, 4, 36, 14], 0, 0), none, none, some (.bipush 6, 2, [], 6, 0), none, some (.iload_n 2, 1, [2], 0, 0), some (.imul, 1, [], 0, 0), some (.iload 6, 2, [6], 0, 0), none, some (.iadd, 1, [], 0, 0), some (.iconst 1, 1, [], 1, 0), some (.bastore, 1, [], 0, 0), some (.aload_n 0, 1, [0], 0, 0), some (.getfield 62, 3, [12, 25, 2, 4, 36, 14], 0, 0), none, none, some (.bipush 6, 2, [], 6, 0)],
  [none, some (.iload 6, 2, [6], 0, 0), none, some (.imul, 1, [], 0, 0), some (.iload_n 2, 1, [2], 0, 0), some (.iadd, 1, [], 0, 0), some (.iconst 1, 1, [], 1, 0), some (.bastore, 1, [], 0, 0), some (.iconst 1, 1, [], 1, 0), some (.ireturn, 1, [], 0, 0)]]
def F_M_near_109 (N : Nat) (a1 : Int32) (a2 : Int32) (a5 : Int32) (h : MH) : Option (Int32 × MH) :=
  if inB a5 6 = true then
  ((f_M_number N 0 ((gI h 77 (iN a5)) - 1) h).bind (fun x11 =>
  if x11.1 = 0 then
  (some (0, x11.2))
  else
  (if inB a5 6 = true then
  (let v12 : Int32 := (gI x11.2 76 (iN a5)) + (gI x11.2 68 39)
  (f_M_wantEnd N x11.2).bind (fun x13 =>
  if x13.1 = 0 then
  (some (0, x13.2))
  else
  (if inB ((6 * a2) + v12) 36 = true then
  (if (gI x13.2 82 (iN ((6 * a2) + v12))) = 0 then
  (if inB ((6 * a2) + v12) 36 = true then
  (let h14 : MH := sI x13.2 82 (iN ((6 * a2) + v12)) ((1 : Int32) &&& 1)
  if inB ((6 * v12) + a2) 36 = true then
  (let h15 : MH := sI h14 82 (iN ((6 * v12) + a2)) ((1 : Int32) &&& 1)
  some (1, h15))
  else none)
  else none)
  else
  ((f_M_failsAt N 6 a1 x13.2).bind (fun x16 =>
  match narOK 1 x16.1 with
  | true => some (x16.1, x16.2)
  | false => none)))
  else none)))
  else none)))
  else none
def f_M_near (N : Nat) (h : MH) : Option (Int32 × MH) :=
  let v1 : Int32 := gI h 68 11
  (f_M_next N h).bind (fun x2 =>
  (f_M_cell N x2).bind (fun x3 =>
  if x3.1 = 0 then
  (some (0, x3.2))
  else
  (let v4 : Int32 := gI x3.2 68 39
  (f_M_nameHere N x3.2).bind (fun x5 =>
  if (lg_cmp x5.1 ((-1))) = 0 then
  ((f_M_fails N 2 x5.2).bind (fun x6 =>
  match narOK 1 x6.1 with
  | true => some (x6.1, x6.2)
  | false => none))
  else
  ((f_M_sheetOf N x5.1 x5.2).bind (fun x7 =>
  if x7.1 = ((-1)) then
  ((f_M_fails N 3 x7.2).bind (fun x8 =>
  match narOK 1 x8.1 with
  | true => some (x8.1, x8.2)
  | false => none))
  else
  ((f_M_next N x7.2).bind (fun x9 =>
  if (gI x9 68 10) = 3 then
  (if inB x7.1 6 = true then
  (if (gI x9 77 (iN x7.1)) ≤ (gI x9 68 13) then
  (F_M_near_109 N v1 v4 x7.1 x9)
  else
  (if inB x7.1 6 = true then
  (if ((gI x9 76 (iN x7.1)) + (gI x9 68 13)) = v4 then
  ((f_M_fails N 4 x9).bind (fun x10 =>
  match narOK 1 x10.1 with
  | true => some (x10.1, x10.2)
  | false => none))
  else
  (F_M_near_109 N v1 v4 x7.1 x9))
  else none))
  else none)
  else
  (F_M_near_109 N v1 v4 x7.1 x9)))))))))
def C_M_near (N : Nat) : MC := (KDL, false, (fun _ => 0), jsB, (fun j => match Nat.beq j 186 with
    | true => w_M_fails (f_M_fails N)
    | false => match Nat.beq j 187 with
    | true => w_M_failsAt (f_M_failsAt N)
    | false => match Nat.beq j 189 with
    | true => w_M_wantEnd (f_M_wantEnd N)
    | false => match Nat.beq j 191 with
    | true => w_M_sheetOf (f_M_sheetOf N)
    | false => match Nat.beq j 193 with
    | true => w_M_number (f_M_number N)
    | false => match Nat.beq j 194 with
    | true => w_M_cell (f_M_cell N)
    | false => fun _ _ => none), (fun j => match Nat.beq j 190 with
    | true => w_M_nameHere (f_M_nameHere N)
    | false => fun _ _ => none), (fun _ _ _ => none), (fun j => match Nat.beq j 183 with
    | true => w_M_next (f_M_next N)
    | false => fun _ _ => none))
def D_M_near (N : Nat) (n pc : Nat) (lv : ML) (st : List MV) (h : MH) : Option (Int32 × MH) :=
  match Nat.beq pc 0 with
  | true => (match lk lv 0, st with
    | some (.inr (.inr (0, 12, 68))), [] => f_M_near N h
    | _, _ => none)
  | false => match Nat.beq pc 109 with
  | true => (match lk lv 0, lk lv 1, lk lv 2, lk lv 5, st with
    | some (.inr (.inr (0, 12, 68))), some (.inl a1), some (.inl a2), some (.inl a5), [] => F_M_near_109 N a1 a2 a5 h
    | _, _, _, _, _ => none)
  | false => none
set_option maxRecDepth 1000000 in
theorem E_M_near_0 (N : Nat) (n : Nat) (h : MH) : seg (C_M_near N) 7 1 rI T_M_near [0, 109] (fun q lv st h => match Nat.ble 1 q with
    | true => D_M_near N n q lv st h
    | false => none) 400 true 0 [(0, .inr (.inr (0, 12, 68)))] [] h = f_M_near N h := (rfl)
set_option maxRecDepth 1000000 in
theorem E_M_near_109 (N : Nat) (n : Nat) (a1 : Int32) (a2 : Int32) (a5 : Int32) (h : MH) : seg (C_M_near N) 7 1 rI T_M_near [0, 109] (fun q lv st h => match Nat.ble 110 q with
    | true => D_M_near N n q lv st h
    | false => none) 400 true 109 [(0, .inr (.inr (0, 12, 68))), (1, .inl a1), (2, .inl a2), (5, .inl a5)] [] h = F_M_near_109 N a1 a2 a5 h := (rfl)
set_option maxRecDepth 1000000 in
theorem chk_M_near : chkT 12 false prog_14_method_35_code T_M_near = true := by decide +kernel
theorem mc_M_near : mC 197 = prog_14_method_35_code := by rfl
theorem mx_M_near : mL 197 = 7 ∧ mR 197 = some .boolean ∧ mK 197 = 1 ∧ (mN 197).cls = cN 12 := by decide +kernel
theorem hD_M_near (N : Nat) {r : Int32 × MH} : ∀ n pc lv st h, D_M_near N n pc lv st h = some r → ∃ lv', (∀ q ∈ lv', q ∈ lv) ∧ seg (C_M_near N) 7 1 rI T_M_near [0, 109] (fun q lv st h => match Nat.ble (pc + 1) q with
    | true => D_M_near N n q lv st h
    | false => none) 400 true pc lv' st h = some r := by
  intro n pc lv st h hf
  unfold D_M_near at hf
  split at hf
  · rename_i hb
    have hb := Nat.eq_of_beq_eq_true hb
    subst hb
    split at hf
    · rename_i e0
      exact ⟨_, (sub_cons e0 sub_nil), (E_M_near_0 N n h).trans hf⟩
    · cases hf
  · skip
    split at hf
    · rename_i hb
      have hb := Nat.eq_of_beq_eq_true hb
      subst hb
      split at hf
      · rename_i y0 y1 y2 e0 e1 e2 e3
        exact ⟨_, (sub_cons e0 (sub_cons e1 (sub_cons e2 (sub_cons e3 sub_nil)))), (E_M_near_109 N n _ _ _ h).trans hf⟩
      · cases hf
    · skip
      cases hf
theorem hM_M_near (N : Nat) {r : Int32 × MH} : ∀ n pc lv st h, D_M_near N n pc lv st h = some r → pc < 202 := by
  intro n pc lv st h hf
  unfold D_M_near at hf
  split at hf
  · rename_i hb
    rw [Nat.eq_of_beq_eq_true hb]
    decide
  · skip
    split at hf
    · rename_i hb
      rw [Nat.eq_of_beq_eq_true hb]
      decide
    · skip
      cases hf
theorem s_M_near {l : Launch} {E : EV} {N : Nat} {as : List MV} {h : MH} {r : Int32 × MH} (hf : w_M_near (f_M_near N) as h = some r) : SndM l E false 7 197 as h (some (.inl r.1)) r.2 := by
  unfold w_M_near at hf
  split at hf
  · obtain ⟨m1, m2, m3, m4⟩ := mx_M_near
    refine snd_of (C := C_M_near N) (own := 12) (rz := 1) (lim := 115) rI_eq m2 m4 pl_197 (TB_in _ cw_197 rfl) ⟨(fun _ => ⟨_, _, _, _, _, _, rfl, rfl, by rw [m4]; rfl⟩), (fun z => by rw [m3] at z; cases z)⟩ (fun z => by cases z) KDL_take rfl rfl (fun z => by cases z) (fun z => by cases z) (fun _ => rfl) (by rw [m1]; exact Nat.le_of_ble_eq_true rfl)
      (fun j as h x z => by
      dsimp only [C_M_near] at z
      cases hb : Nat.beq j 186 with
      | true =>
        have hb := Nat.eq_of_beq_eq_true hb
        subst hb
        exact ⟨1, by decide, (fun z => by cases z), s_M_fails z⟩
      | false =>
        rw [hb] at z
        dsimp only at z
        cases hb : Nat.beq j 187 with
        | true =>
          have hb := Nat.eq_of_beq_eq_true hb
          subst hb
          exact ⟨0, by decide, (fun z => by cases z), s_M_failsAt z⟩
        | false =>
          rw [hb] at z
          dsimp only at z
          cases hb : Nat.beq j 189 with
          | true =>
            have hb := Nat.eq_of_beq_eq_true hb
            subst hb
            exact ⟨2, by decide, (fun z => by cases z), s_M_wantEnd z⟩
          | false =>
            rw [hb] at z
            dsimp only at z
            cases hb : Nat.beq j 191 with
            | true =>
              have hb := Nat.eq_of_beq_eq_true hb
              subst hb
              exact ⟨0, by decide, (fun z => by cases z), s_M_sheetOf z⟩
            | false =>
              rw [hb] at z
              dsimp only at z
              cases hb : Nat.beq j 193 with
              | true =>
                have hb := Nat.eq_of_beq_eq_true hb
                subst hb
                exact ⟨2, by decide, (fun z => by cases z), s_M_number z⟩
              | false =>
                rw [hb] at z
                dsimp only at z
                cases hb : Nat.beq j 194 with
                | true =>
                  have hb := Nat.eq_of_beq_eq_true hb
                  subst hb
                  exact ⟨6, by decide, (fun z => by cases z), s_M_cell z⟩
                | false =>
                  rw [hb] at z
                  dsimp only at z
                  cases z)
      (fun j as h x z => by
      dsimp only [C_M_near] at z
      cases hb : Nat.beq j 190 with
      | true =>
        have hb := Nat.eq_of_beq_eq_true hb
        subst hb
        exact ⟨5, by decide, (fun z => by cases z), s_M_nameHere z⟩
      | false =>
        rw [hb] at z
        dsimp only at z
        cases z)
      (fun _ _ _ _ z => by cases z)
      (fun j as h x z => by
      dsimp only [C_M_near] at z
      cases hb : Nat.beq j 183 with
      | true =>
        have hb := Nat.eq_of_beq_eq_true hb
        subst hb
        exact ⟨1, by decide, (fun z => by cases z), s_M_next z⟩
      | false =>
        rw [hb] at z
        dsimp only at z
        cases z)
      (fun p e R s m args below meth c Q n0 F hret => ?_)
    rw [m1] at F hret ⊢
    rw [mc_M_near] at F hret
    exact cuts_s (K := 400) (M := 202) (D := D_M_near N) (B := fun _ _ _ _ _ => none) F hret (chkT_ok chk_M_near) (hM_M_near N) (fun _ _ _ _ _ z => by cases z) (hD_M_near N) N 0 _ _ _ hf
  · cases hf
def T_M_stuck : List (List (Option RW)) := [
  [some (.aload_n 0, 1, [0], 0, 0), some (.getfield 217, 3, [12, 11, 0], 0, 0), none, none, some (.istore_n 1, 1, [1], 0, 0), some (.aload_n 0, 1, [0], 0, 0), some (.invokevirtual 263, 3, [0, 183, 1, 3], 0, 0), none, none, some (.aload_n 0, 1, [0], 0, 0), some (.invokevirtual 302, 3, [0, 194, 1, 0], 0, 0), none, none, some (.ifCond .ne 5, 3, [18], 0, 0), none, none, some (.iconst 0, 1, [], 0, 0), some (.ireturn, 1, [], 0, 0), some (.aload_n 0, 1, [0], 0, 0), some (.getfield 275, 3, [12, 39, 0], 0, 0), none, none, some (.istore_n 2, 1, [2], 0, 0), some (.aload_n 0, 1, [0], 0, 0), some (.bipush 7, 2, [], 7, 0), none, some (.invokevirtual 292, 3, [0, 188, 2, 0], 0, 0), none, none, some (.ifCond .eq 13, 3, [42], 0, 0), none, none],
  [some (.aload_n 0, 1, [0], 0, 0), some (.iconst 0, 1, [], 0, 0), some (.bipush 100, 2, [], 100, 0), none, some (.invokevirtual 286, 3, [0, 193, 3, 0], 0, 0), none, none, some (.ifCond .ne 5, 3, [44], 0, 0), none, none, some (.iconst 0, 1, [], 0, 0), some (.ireturn, 1, [], 0, 0), some (.aload_n 0, 1, [0], 0, 0), some (.getfield 275, 3, [12, 39, 0], 0, 0), none, none, some (.istore_n 3, 1, [3], 0, 0), some (.aload_n 0, 1, [0], 0, 0), some (.bipush 8, 2, [], 8, 0), none, some (.invokevirtual 292, 3, [0, 188, 2, 0], 0, 0), none, none, some (.ifCond .eq 13, 3, [68], 0, 0), none, none, some (.aload_n 0, 1, [0], 0, 0), some (.iload_n 3, 1, [3], 0, 0), some (.bipush 100, 2, [], 100, 0), none, some (.invokevirtual 286, 3, [0, 193, 3, 0], 0, 0), none],
  [none, some (.ifCond .ne 5, 3, [70], 0, 0), none, none, some (.iconst 0, 1, [], 0, 0), some (.ireturn, 1, [], 0, 0), some (.aload_n 0, 1, [0], 0, 0), some (.getfield 275, 3, [12, 39, 0], 0, 0), none, none, some (.istore 4, 2, [4], 0, 0), none, some (.aload_n 0, 1, [0], 0, 0), some (.invokevirtual 298, 3, [0, 189, 1, 0], 0, 0), none, none, some (.ifCond .ne 5, 3, [85], 0, 0), none, none, some (.iconst 0, 1, [], 0, 0), some (.ireturn, 1, [], 0, 0), some (.aload_n 0, 1, [0], 0, 0), some (.getfield 66, 3, [12, 26, 2, 4, 6, 15], 0, 0), none, none, some (.iload_n 2, 1, [2], 0, 0), some (.baload, 1, [], 0, 0), some (.ifCond .eq 11, 3, [102], 0, 0), none, none, some (.aload_n 0, 1, [0], 0, 0), some (.bipush 6, 2, [], 6, 0)],
  [none, some (.iload_n 1, 1, [1], 0, 0), some (.invokevirtual 250, 3, [0, 187, 3, 0], 0, 0), none, none, some (.ireturn, 1, [], 0, 0), some (.aload_n 0, 1, [0], 0, 0), some (.getfield 66, 3, [12, 26, 2, 4, 6, 15], 0, 0), none, none, some (.iload_n 2, 1, [2], 0, 0), some (.iconst 1, 1, [], 1, 0), some (.bastore, 1, [], 0, 0), some (.aload_n 0, 1, [0], 0, 0), some (.getfield 53, 3, [12, 22, 2, 1, 6, 11], 0, 0), none, none, some (.iload_n 2, 1, [2], 0, 0), some (.iload_n 3, 1, [3], 0, 0), some (.iastore, 1, [], 0, 0), some (.aload_n 0, 1, [0], 0, 0), some (.getfield 56, 3, [12, 23, 2, 1, 6, 12], 0, 0), none, none, some (.iload_n 2, 1, [2], 0, 0), some (.iload 4, 2, [4], 0, 0), none, some (.iastore, 1, [], 0, 0), some (.iconst 1, 1, [], 1, 0), some (.ireturn, 1, [], 0, 0)]]
def f_M_stuck (N : Nat) (h : MH) : Option (Int32 × MH) :=
  let v1 : Int32 := gI h 68 11
  (f_M_next N h).bind (fun x2 =>
  (f_M_cell N x2).bind (fun x3 =>
  if x3.1 = 0 then
  (some (0, x3.2))
  else
  (let v4 : Int32 := gI x3.2 68 39
  (f_M_wantKey N 7 x3.2).bind (fun x5 =>
  if x5.1 = 0 then
  (some (0, x5.2))
  else
  ((f_M_number N 0 100 x5.2).bind (fun x6 =>
  if x6.1 = 0 then
  (some (0, x6.2))
  else
  (let v7 : Int32 := gI x6.2 68 39
  (f_M_wantKey N 8 x6.2).bind (fun x8 =>
  if x8.1 = 0 then
  (some (0, x8.2))
  else
  ((f_M_number N v7 100 x8.2).bind (fun x9 =>
  if x9.1 = 0 then
  (some (0, x9.2))
  else
  (let v10 : Int32 := gI x9.2 68 39
  (f_M_wantEnd N x9.2).bind (fun x11 =>
  if x11.1 = 0 then
  (some (0, x11.2))
  else
  (if inB v4 6 = true then
  (if (gI x11.2 83 (iN v4)) = 0 then
  (if inB v4 6 = true then
  (let h12 : MH := sI x11.2 83 (iN v4) ((1 : Int32) &&& 1)
  if inB v4 6 = true then
  (let h13 : MH := sI h12 79 (iN v4) v7
  if inB v4 6 = true then
  (let h14 : MH := sI h13 80 (iN v4) v10
  some (1, h14))
  else none)
  else none)
  else none)
  else
  ((f_M_failsAt N 6 v1 x11.2).bind (fun x15 =>
  match narOK 1 x15.1 with
  | true => some (x15.1, x15.2)
  | false => none)))
  else none)))))))))))))
def C_M_stuck (N : Nat) : MC := (KDL, false, (fun _ => 0), jsB, (fun j => match Nat.beq j 187 with
    | true => w_M_failsAt (f_M_failsAt N)
    | false => match Nat.beq j 188 with
    | true => w_M_wantKey (f_M_wantKey N)
    | false => match Nat.beq j 189 with
    | true => w_M_wantEnd (f_M_wantEnd N)
    | false => match Nat.beq j 193 with
    | true => w_M_number (f_M_number N)
    | false => match Nat.beq j 194 with
    | true => w_M_cell (f_M_cell N)
    | false => fun _ _ => none), (fun _ _ _ => none), (fun _ _ _ => none), (fun j => match Nat.beq j 183 with
    | true => w_M_next (f_M_next N)
    | false => fun _ _ => none))
def D_M_stuck (N : Nat) (n pc : Nat) (lv : ML) (st : List MV) (h : MH) : Option (Int32 × MH) :=
  match Nat.beq pc 0 with
  | true => (match lk lv 0, st with
    | some (.inr (.inr (0, 12, 68))), [] => f_M_stuck N h
    | _, _ => none)
  | false => none
set_option maxRecDepth 1000000 in
theorem E_M_stuck_0 (N : Nat) (n : Nat) (h : MH) : seg (C_M_stuck N) 5 1 rI T_M_stuck [0] (fun q lv st h => match Nat.ble 1 q with
    | true => D_M_stuck N n q lv st h
    | false => none) 400 true 0 [(0, .inr (.inr (0, 12, 68)))] [] h = f_M_stuck N h := (rfl)
set_option maxRecDepth 1000000 in
theorem chk_M_stuck : chkT 12 false prog_14_method_36_code T_M_stuck = true := by decide +kernel
theorem mc_M_stuck : mC 198 = prog_14_method_36_code := by rfl
theorem mx_M_stuck : mL 198 = 5 ∧ mR 198 = some .boolean ∧ mK 198 = 1 ∧ (mN 198).cls = cN 12 := by decide +kernel
theorem hD_M_stuck (N : Nat) {r : Int32 × MH} : ∀ n pc lv st h, D_M_stuck N n pc lv st h = some r → ∃ lv', (∀ q ∈ lv', q ∈ lv) ∧ seg (C_M_stuck N) 5 1 rI T_M_stuck [0] (fun q lv st h => match Nat.ble (pc + 1) q with
    | true => D_M_stuck N n q lv st h
    | false => none) 400 true pc lv' st h = some r := by
  intro n pc lv st h hf
  unfold D_M_stuck at hf
  split at hf
  · rename_i hb
    have hb := Nat.eq_of_beq_eq_true hb
    subst hb
    split at hf
    · rename_i e0
      exact ⟨_, (sub_cons e0 sub_nil), (E_M_stuck_0 N n h).trans hf⟩
    · cases hf
  · skip
    cases hf
theorem hM_M_stuck (N : Nat) {r : Int32 × MH} : ∀ n pc lv st h, D_M_stuck N n pc lv st h = some r → pc < 126 := by
  intro n pc lv st h hf
  unfold D_M_stuck at hf
  split at hf
  · rename_i hb
    rw [Nat.eq_of_beq_eq_true hb]
    decide
  · skip
    cases hf
theorem s_M_stuck {l : Launch} {E : EV} {N : Nat} {as : List MV} {h : MH} {r : Int32 × MH} (hf : w_M_stuck (f_M_stuck N) as h = some r) : SndM l E false 7 198 as h (some (.inl r.1)) r.2 := by
  unfold w_M_stuck at hf
  split at hf
  · obtain ⟨m1, m2, m3, m4⟩ := mx_M_stuck
    refine snd_of (C := C_M_stuck N) (own := 12) (rz := 1) (lim := 115) rI_eq m2 m4 pl_198 (TB_in _ cw_198 rfl) ⟨(fun _ => ⟨_, _, _, _, _, _, rfl, rfl, by rw [m4]; rfl⟩), (fun z => by rw [m3] at z; cases z)⟩ (fun z => by cases z) KDL_take rfl rfl (fun z => by cases z) (fun z => by cases z) (fun _ => rfl) (by rw [m1]; exact Nat.le_of_ble_eq_true rfl)
      (fun j as h x z => by
      dsimp only [C_M_stuck] at z
      cases hb : Nat.beq j 187 with
      | true =>
        have hb := Nat.eq_of_beq_eq_true hb
        subst hb
        exact ⟨0, by decide, (fun z => by cases z), s_M_failsAt z⟩
      | false =>
        rw [hb] at z
        dsimp only at z
        cases hb : Nat.beq j 188 with
        | true =>
          have hb := Nat.eq_of_beq_eq_true hb
          subst hb
          exact ⟨5, by decide, (fun z => by cases z), s_M_wantKey z⟩
        | false =>
          rw [hb] at z
          dsimp only at z
          cases hb : Nat.beq j 189 with
          | true =>
            have hb := Nat.eq_of_beq_eq_true hb
            subst hb
            exact ⟨2, by decide, (fun z => by cases z), s_M_wantEnd z⟩
          | false =>
            rw [hb] at z
            dsimp only at z
            cases hb : Nat.beq j 193 with
            | true =>
              have hb := Nat.eq_of_beq_eq_true hb
              subst hb
              exact ⟨2, by decide, (fun z => by cases z), s_M_number z⟩
            | false =>
              rw [hb] at z
              dsimp only at z
              cases hb : Nat.beq j 194 with
              | true =>
                have hb := Nat.eq_of_beq_eq_true hb
                subst hb
                exact ⟨6, by decide, (fun z => by cases z), s_M_cell z⟩
              | false =>
                rw [hb] at z
                dsimp only at z
                cases z)
      (fun _ _ _ _ z => by cases z)
      (fun _ _ _ _ z => by cases z)
      (fun j as h x z => by
      dsimp only [C_M_stuck] at z
      cases hb : Nat.beq j 183 with
      | true =>
        have hb := Nat.eq_of_beq_eq_true hb
        subst hb
        exact ⟨1, by decide, (fun z => by cases z), s_M_next z⟩
      | false =>
        rw [hb] at z
        dsimp only at z
        cases z)
      (fun p e R s m args below meth c Q n0 F hret => ?_)
    rw [m1] at F hret ⊢
    rw [mc_M_stuck] at F hret
    exact cuts_s (K := 400) (M := 126) (D := D_M_stuck N) (B := fun _ _ _ _ _ => none) F hret (chkT_ok chk_M_stuck) (hM_M_stuck N) (fun _ _ _ _ _ z => by cases z) (hD_M_stuck N) N 0 _ _ _ hf
  · cases hf
def T_M_begin : List (List (Option RW)) := [
  [some (.aload_n 0, 1, [0], 0, 0), some (.getfield 87, 3, [12, 40, 2, 2, 8, 22], 0, 0), none, none, some (.iload_n 1, 1, [1], 0, 0), some (.lconst 0, 1, [], 0, 0), some (.lastore, 1, [], 0, 0), some (.aload_n 0, 1, [0], 0, 0), some (.getfield 93, 3, [12, 42, 2, 4, 8, 24], 0, 0), none, none, some (.iload_n 1, 1, [1], 0, 0), some (.iconst 0, 1, [], 0, 0), some (.bastore, 1, [], 0, 0), some (.aload_n 0, 1, [0], 0, 0), some (.getfield 96, 3, [12, 43, 2, 4, 8, 25], 0, 0), none, none, some (.iload_n 1, 1, [1], 0, 0), some (.iconst 0, 1, [], 0, 0), some (.bastore, 1, [], 0, 0), some (.return_, 1, [], 0, 0)]]
def f_M_begin (N : Nat) (a1 : Int32) (h : MH) : Option (MH) :=
  if inB a1 8 = true then
  (let h1 : MH := sJ h 90 (iN a1) 0
  if inB a1 8 = true then
  (let h2 : MH := sI h1 92 (iN a1) ((0 : Int32) &&& 1)
  if inB a1 8 = true then
  (let h3 : MH := sI h2 93 (iN a1) ((0 : Int32) &&& 1)
  some h3)
  else none)
  else none)
  else none
def C_M_begin (N : Nat) : MC := (KDL, false, (fun _ => 0), jsB, (fun _ _ _ => none), (fun _ _ _ => none), (fun _ _ _ => none), (fun _ _ _ => none))
def D_M_begin (N : Nat) (n pc : Nat) (lv : ML) (st : List MV) (h : MH) : Option (MH) :=
  match Nat.beq pc 0 with
  | true => (match lk lv 0, lk lv 1, st with
    | some (.inr (.inr (0, 12, 68))), some (.inl a1), [] => f_M_begin N a1 h
    | _, _, _ => none)
  | false => none
set_option maxRecDepth 1000000 in
theorem E_M_begin_0 (N : Nat) (n : Nat) (a1 : Int32) (h : MH) : seg (C_M_begin N) 2 0 rV T_M_begin [0] (fun q lv st h => match Nat.ble 1 q with
    | true => D_M_begin N n q lv st h
    | false => none) 400 true 0 [(0, .inr (.inr (0, 12, 68))), (1, .inl a1)] [] h = f_M_begin N a1 h := (rfl)
set_option maxRecDepth 1000000 in
theorem chk_M_begin : chkT 12 false prog_14_method_39_code T_M_begin = true := by decide +kernel
theorem mc_M_begin : mC 201 = prog_14_method_39_code := by rfl
theorem mx_M_begin : mL 201 = 2 ∧ mR 201 = none ∧ mK 201 = 1 ∧ (mN 201).cls = cN 12 := by decide +kernel
theorem hD_M_begin (N : Nat) {r : MH} : ∀ n pc lv st h, D_M_begin N n pc lv st h = some r → ∃ lv', (∀ q ∈ lv', q ∈ lv) ∧ seg (C_M_begin N) 2 0 rV T_M_begin [0] (fun q lv st h => match Nat.ble (pc + 1) q with
    | true => D_M_begin N n q lv st h
    | false => none) 400 true pc lv' st h = some r := by
  intro n pc lv st h hf
  unfold D_M_begin at hf
  split at hf
  · rename_i hb
    have hb := Nat.eq_of_beq_eq_true hb
    subst hb
    split at hf
    · rename_i y0 e0 e1
      exact ⟨_, (sub_cons e0 (sub_cons e1 sub_nil)), (E_M_begin_0 N n _ h).trans hf⟩
    · cases hf
  · skip
    cases hf
theorem hM_M_begin (N : Nat) {r : MH} : ∀ n pc lv st h, D_M_begin N n pc lv st h = some r → pc < 22 := by
  intro n pc lv st h hf
  unfold D_M_begin at hf
  split at hf
  · rename_i hb
    rw [Nat.eq_of_beq_eq_true hb]
    decide
  · skip
    cases hf
theorem s_M_begin {l : Launch} {E : EV} {N : Nat} {as : List MV} {h : MH} {r : MH} (hf : w_M_begin (f_M_begin N) as h = some r) : SndM l E false 0 201 as h none r := by
  unfold w_M_begin at hf
  split at hf
  · obtain ⟨m1, m2, m3, m4⟩ := mx_M_begin
    refine snd_of (C := C_M_begin N) (own := 12) (rz := 0) (lim := 115) rV_eq m2 m4 pl_201 (TB_in _ cw_201 rfl) ⟨(fun _ => ⟨_, _, _, _, _, _, rfl, rfl, by rw [m4]; rfl⟩), (fun z => by rw [m3] at z; cases z)⟩ (fun z => by cases z) KDL_take rfl rfl (fun z => by cases z) (fun z => by cases z) (fun _ => rfl) (by rw [m1]; exact Nat.le_of_ble_eq_true rfl)
      (fun _ _ _ _ z => by cases z)
      (fun _ _ _ _ z => by cases z)
      (fun _ _ _ _ z => by cases z)
      (fun _ _ _ _ z => by cases z)
      (fun p e R s m args below meth c Q n0 F hret => ?_)
    rw [m1] at F hret ⊢
    rw [mc_M_begin] at F hret
    exact cuts_s (K := 400) (M := 22) (D := D_M_begin N) (B := fun _ _ _ _ _ => none) F hret (chkT_ok chk_M_begin) (hM_M_begin N) (fun _ _ _ _ _ z => by cases z) (hD_M_begin N) N 0 _ _ _ hf
  · cases hf
def T_M_sum : List (List (Option RW)) := [
  [some (.aload_n 0, 1, [0], 0, 0), some (.iconst 0, 1, [], 0, 0), some (.putfield 315, 3, [12, 45, 0], 0, 0), none, none, some (.aload_n 0, 1, [0], 0, 0), some (.iconst 0, 1, [], 0, 0), some (.putfield 318, 3, [12, 46, 0], 0, 0), none, none, some (.aload_n 0, 1, [0], 0, 0), some (.iconst 0, 1, [], 0, 0), some (.invokevirtual 321, 3, [0, 201, 2, 3], 0, 0), none, none, some (.aload_n 0, 1, [0], 0, 0), some (.getfield 254, 3, [12, 16, 0], 0, 0), none, none, some (.ifCond .ne 403, 3, [422], 0, 0), none, none, some (.aload_n 0, 1, [0], 0, 0), some (.bipush 45, 2, [], 45, 0), none, some (.invokevirtual 266, 3, [0, 184, 2, 0], 0, 0), none, none, some (.ifCond .ne 12, 3, [40], 0, 0), none, none, some (.aload_n 0, 1, [0], 0, 0)],
  [some (.bipush 40, 2, [], 40, 0), none, some (.invokevirtual 266, 3, [0, 184, 2, 0], 0, 0), none, none, some (.ifCond .eq 85, 3, [122], 0, 0), none, none, some (.aload_n 0, 1, [0], 0, 0), some (.getfield 315, 3, [12, 45, 0], 0, 0), none, none, some (.bipush 6, 2, [], 6, 0), none, some (.if_icmp .ne 9, 3, [55], 0, 0), none, none, some (.aload_n 0, 1, [0], 0, 0), some (.iconst 5, 1, [], 5, 0), some (.invokevirtual 260, 3, [0, 186, 2, 0], 0, 0), none, none, some (.ireturn, 1, [], 0, 0), some (.aload_n 0, 1, [0], 0, 0), some (.getfield 99, 3, [12, 44, 2, 1, 8, 26], 0, 0), none, none, some (.aload_n 0, 1, [0], 0, 0), some (.getfield 315, 3, [12, 45, 0], 0, 0), none, none, some (.aload_n 0, 1, [0], 0, 0)],
  [some (.bipush 40, 2, [], 40, 0), none, some (.invokevirtual 266, 3, [0, 184, 2, 0], 0, 0), none, none, some (.ifCond .eq 7, 3, [76], 0, 0), none, none, some (.iconst 1, 1, [], 1, 0), some (.goto 4, 3, [77], 0, 0), none, none, some (.iconst 2, 1, [], 2, 0), some (.iastore, 1, [], 0, 0), some (.aload_n 0, 1, [0], 0, 0), some (.dup, 1, [], 0, 0), some (.getfield 315, 3, [12, 45, 0], 0, 0), none, none, some (.iconst 1, 1, [], 1, 0), some (.iadd, 1, [], 0, 0), some (.putfield 315, 3, [12, 45, 0], 0, 0), none, none, some (.aload_n 0, 1, [0], 0, 0), some (.bipush 40, 2, [], 40, 0), none, some (.invokevirtual 266, 3, [0, 184, 2, 0], 0, 0), none, none, some (.ifCond .eq 21, 3, [115], 0, 0), none],
  [none, some (.aload_n 0, 1, [0], 0, 0), some (.dup, 1, [], 0, 0), some (.getfield 318, 3, [12, 46, 0], 0, 0), none, none, some (.iconst 1, 1, [], 1, 0), some (.iadd, 1, [], 0, 0), some (.putfield 318, 3, [12, 46, 0], 0, 0), none, none, some (.aload_n 0, 1, [0], 0, 0), some (.aload_n 0, 1, [0], 0, 0), some (.getfield 318, 3, [12, 46, 0], 0, 0), none, none, some (.invokevirtual 321, 3, [0, 201, 2, 3], 0, 0), none, none, some (.aload_n 0, 1, [0], 0, 0), some (.invokevirtual 263, 3, [0, 183, 1, 3], 0, 0), none, none, some (.goto (-104), 3, [15], 0, 0), none, none, some (.aload_n 0, 1, [0], 0, 0), some (.getfield 223, 3, [12, 10, 0], 0, 0), none, none, some (.iconst 3, 1, [], 3, 0), some (.if_icmp .eq 9, 3, [136], 0, 0)],
  [none, none, some (.aload_n 0, 1, [0], 0, 0), some (.iconst 2, 1, [], 2, 0), some (.invokevirtual 260, 3, [0, 186, 2, 0], 0, 0), none, none, some (.ireturn, 1, [], 0, 0), some (.aload_n 0, 1, [0], 0, 0), some (.getfield 220, 3, [12, 13, 0], 0, 0), none, none, some (.i2l, 1, [], 0, 0), some (.lstore_n 1, 1, [1], 0, 0), some (.aload_n 0, 1, [0], 0, 0), some (.invokevirtual 263, 3, [0, 183, 1, 3], 0, 0), none, none, some (.iconst 1, 1, [], 1, 0), some (.istore_n 3, 1, [3], 0, 0), some (.iload_n 3, 1, [3], 0, 0), some (.ifCond .eq 266, 3, [415], 0, 0), none, none, some (.aload_n 0, 1, [0], 0, 0), some (.getfield 315, 3, [12, 45, 0], 0, 0), none, none, some (.ifCond .le 34, 3, [190], 0, 0), none, none, some (.aload_n 0, 1, [0], 0, 0)],
  [some (.getfield 99, 3, [12, 44, 2, 1, 8, 26], 0, 0), none, none, some (.aload_n 0, 1, [0], 0, 0), some (.getfield 315, 3, [12, 45, 0], 0, 0), none, none, some (.iconst 1, 1, [], 1, 0), some (.isub, 1, [], 0, 0), some (.iaload, 1, [], 0, 0), some (.iconst 2, 1, [], 2, 0), some (.if_icmp .ne 19, 3, [190], 0, 0), none, none, some (.lload_n 1, 1, [1], 0, 0), some (.lneg, 1, [], 0, 0), some (.lstore_n 1, 1, [1], 0, 0), some (.aload_n 0, 1, [0], 0, 0), some (.dup, 1, [], 0, 0), some (.getfield 315, 3, [12, 45, 0], 0, 0), none, none, some (.iconst 1, 1, [], 1, 0), some (.isub, 1, [], 0, 0), some (.putfield 315, 3, [12, 45, 0], 0, 0), none, none, some (.goto (-35), 3, [152], 0, 0), none, none, some (.aload_n 0, 1, [0], 0, 0), some (.getfield 90, 3, [12, 41, 2, 2, 8, 23], 0, 0)],
  [none, none, some (.aload_n 0, 1, [0], 0, 0), some (.getfield 318, 3, [12, 46, 0], 0, 0), none, none, some (.aload_n 0, 1, [0], 0, 0), some (.getfield 93, 3, [12, 42, 2, 4, 8, 24], 0, 0), none, none, some (.aload_n 0, 1, [0], 0, 0), some (.getfield 318, 3, [12, 46, 0], 0, 0), none, none, some (.baload, 1, [], 0, 0), some (.ifCond .eq 17, 3, [224], 0, 0), none, none, some (.aload_n 0, 1, [0], 0, 0), some (.getfield 90, 3, [12, 41, 2, 2, 8, 23], 0, 0), none, none, some (.aload_n 0, 1, [0], 0, 0), some (.getfield 318, 3, [12, 46, 0], 0, 0), none, none, some (.laload, 1, [], 0, 0), some (.lload_n 1, 1, [1], 0, 0), some (.lmul, 1, [], 0, 0), some (.goto 4, 3, [225], 0, 0), none, none],
  [some (.lload_n 1, 1, [1], 0, 0), some (.lastore, 1, [], 0, 0), some (.aload_n 0, 1, [0], 0, 0), some (.getfield 93, 3, [12, 42, 2, 4, 8, 24], 0, 0), none, none, some (.aload_n 0, 1, [0], 0, 0), some (.getfield 318, 3, [12, 46, 0], 0, 0), none, none, some (.iconst 1, 1, [], 1, 0), some (.bastore, 1, [], 0, 0), some (.aload_n 0, 1, [0], 0, 0), some (.bipush 42, 2, [], 42, 0), none, some (.invokevirtual 266, 3, [0, 184, 2, 0], 0, 0), none, none, some (.ifCond .eq 8, 3, [250], 0, 0), none, none, some (.iconst 0, 1, [], 0, 0), some (.istore_n 3, 1, [3], 0, 0), some (.goto (-99), 3, [148], 0, 0), none, none, some (.aload_n 0, 1, [0], 0, 0), some (.getfield 87, 3, [12, 40, 2, 2, 8, 22], 0, 0), none, none, some (.aload_n 0, 1, [0], 0, 0), some (.getfield 318, 3, [12, 46, 0], 0, 0)],
  [none, none, some (.dup2, 1, [], 0, 0), some (.laload, 1, [], 0, 0), some (.aload_n 0, 1, [0], 0, 0), some (.getfield 96, 3, [12, 43, 2, 4, 8, 25], 0, 0), none, none, some (.aload_n 0, 1, [0], 0, 0), some (.getfield 318, 3, [12, 46, 0], 0, 0), none, none, some (.baload, 1, [], 0, 0), some (.ifCond .eq 16, 3, [285], 0, 0), none, none, some (.aload_n 0, 1, [0], 0, 0), some (.getfield 90, 3, [12, 41, 2, 2, 8, 23], 0, 0), none, none, some (.aload_n 0, 1, [0], 0, 0), some (.getfield 318, 3, [12, 46, 0], 0, 0), none, none, some (.laload, 1, [], 0, 0), some (.lneg, 1, [], 0, 0), some (.goto 12, 3, [294], 0, 0), none, none, some (.aload_n 0, 1, [0], 0, 0), some (.getfield 90, 3, [12, 41, 2, 2, 8, 23], 0, 0), none],
  [none, some (.aload_n 0, 1, [0], 0, 0), some (.getfield 318, 3, [12, 46, 0], 0, 0), none, none, some (.laload, 1, [], 0, 0), some (.ladd, 1, [], 0, 0), some (.lastore, 1, [], 0, 0), some (.aload_n 0, 1, [0], 0, 0), some (.getfield 93, 3, [12, 42, 2, 4, 8, 24], 0, 0), none, none, some (.aload_n 0, 1, [0], 0, 0), some (.getfield 318, 3, [12, 46, 0], 0, 0), none, none, some (.iconst 0, 1, [], 0, 0), some (.bastore, 1, [], 0, 0), some (.aload_n 0, 1, [0], 0, 0), some (.bipush 43, 2, [], 43, 0), none, some (.invokevirtual 266, 3, [0, 184, 2, 0], 0, 0), none, none, some (.ifCond .ne 12, 3, [324], 0, 0), none, none, some (.aload_n 0, 1, [0], 0, 0), some (.bipush 45, 2, [], 45, 0), none, some (.invokevirtual 266, 3, [0, 184, 2, 0], 0, 0), none],
  [none, some (.ifCond .eq 23, 3, [344], 0, 0), none, none, some (.aload_n 0, 1, [0], 0, 0), some (.getfield 96, 3, [12, 43, 2, 4, 8, 25], 0, 0), none, none, some (.aload_n 0, 1, [0], 0, 0), some (.getfield 318, 3, [12, 46, 0], 0, 0), none, none, some (.aload_n 0, 1, [0], 0, 0), some (.bipush 45, 2, [], 45, 0), none, some (.invokevirtual 266, 3, [0, 184, 2, 0], 0, 0), none, none, some (.bastore, 1, [], 0, 0), some (.iconst 0, 1, [], 0, 0), some (.istore_n 3, 1, [3], 0, 0), some (.goto (-193), 3, [148], 0, 0), none, none, some (.aload_n 0, 1, [0], 0, 0), some (.getfield 318, 3, [12, 46, 0], 0, 0), none, none, some (.ifCond .ne 15, 3, [363], 0, 0), none, none, some (.aload_n 0, 1, [0], 0, 0)],
  [some (.aload_n 0, 1, [0], 0, 0), some (.getfield 87, 3, [12, 40, 2, 2, 8, 22], 0, 0), none, none, some (.iconst 0, 1, [], 0, 0), some (.laload, 1, [], 0, 0), some (.putfield 308, 3, [12, 47, 1], 0, 0), none, none, some (.iconst 1, 1, [], 1, 0), some (.ireturn, 1, [], 0, 0), some (.aload_n 0, 1, [0], 0, 0), some (.bipush 41, 2, [], 41, 0), none, some (.invokevirtual 266, 3, [0, 184, 2, 0], 0, 0), none, none, some (.ifCond .ne 9, 3, [378], 0, 0), none, none, some (.aload_n 0, 1, [0], 0, 0), some (.iconst 2, 1, [], 2, 0), some (.invokevirtual 260, 3, [0, 186, 2, 0], 0, 0), none, none, some (.ireturn, 1, [], 0, 0), some (.aload_n 0, 1, [0], 0, 0), some (.getfield 87, 3, [12, 40, 2, 2, 8, 22], 0, 0), none, none, some (.aload_n 0, 1, [0], 0, 0), some (.getfield 318, 3, [12, 46, 0], 0, 0)],
  [none, none, some (.laload, 1, [], 0, 0), some (.lstore_n 1, 1, [1], 0, 0), some (.aload_n 0, 1, [0], 0, 0), some (.dup, 1, [], 0, 0), some (.getfield 318, 3, [12, 46, 0], 0, 0), none, none, some (.iconst 1, 1, [], 1, 0), some (.isub, 1, [], 0, 0), some (.putfield 318, 3, [12, 46, 0], 0, 0), none, none, some (.aload_n 0, 1, [0], 0, 0), some (.dup, 1, [], 0, 0), some (.getfield 315, 3, [12, 45, 0], 0, 0), none, none, some (.iconst 1, 1, [], 1, 0), some (.isub, 1, [], 0, 0), some (.putfield 315, 3, [12, 45, 0], 0, 0), none, none, some (.aload_n 0, 1, [0], 0, 0), some (.invokevirtual 263, 3, [0, 183, 1, 3], 0, 0), none, none, some (.goto (-264), 3, [148], 0, 0), none, none, some (.aload_n 0, 1, [0], 0, 0)],
  [some (.invokevirtual 263, 3, [0, 183, 1, 3], 0, 0), none, none, some (.goto (-404), 3, [15], 0, 0), none, none, some (.iconst 0, 1, [], 0, 0), some (.ireturn, 1, [], 0, 0)]]
def F_M_sum_324 (N : Nat) (bk : (MH → Option (Int32 × MH)) × (Int64 → Int32 → MH → Option (Int32 × MH)) × (Int64 → Int32 → MH → Option (Int32 × MH))) (a1 : Int64) (h : MH) : Option (Int32 × MH) :=
  (f_M_isSign N 45 h).bind (fun x35 =>
  if inB (gI h 68 46) 8 = true then
  (let h36 : MH := sI x35.2 93 (iN (gI h 68 46)) (x35.1 &&& 1)
  (bk.2.1) a1 0 h36)
  else none)
def F_M_sum_294 (N : Nat) (bk : (MH → Option (Int32 × MH)) × (Int64 → Int32 → MH → Option (Int32 × MH)) × (Int64 → Int32 → MH → Option (Int32 × MH))) (a1 : Int64) (a3 : Int32) (as0 : Int64) (as1 : Int64) (as2 : Int32) (h : MH) : Option (Int32 × MH) :=
  if inB as2 8 = true then
  (let h24 : MH := sJ h 90 (iN as2) (as1 + as0)
  if inB (gI h24 68 46) 8 = true then
  (let h25 : MH := sI h24 92 (iN (gI h24 68 46)) ((0 : Int32) &&& 1)
  (f_M_isSign N 43 h25).bind (fun x26 =>
  if x26.1 = 0 then
  ((f_M_isSign N 45 x26.2).bind (fun x27 =>
  if x27.1 = 0 then
  (if (gI x27.2 68 46) = 0 then
  (if inB 0 8 = true then
  (let h28 : MH := sJ x27.2 68 47 (gJ x27.2 90 (iN 0))
  some (1, h28))
  else none)
  else
  ((f_M_isSign N 41 x27.2).bind (fun x29 =>
  if x29.1 = 0 then
  ((f_M_fails N 2 x29.2).bind (fun x30 =>
  match narOK 1 x30.1 with
  | true => some (x30.1, x30.2)
  | false => none))
  else
  (if inB (gI x29.2 68 46) 8 = true then
  (let v31 : Int64 := gJ x29.2 90 (iN (gI x29.2 68 46))
  let h32 : MH := sI x29.2 68 46 ((gI x29.2 68 46) - 1)
  let h33 : MH := sI h32 68 45 ((gI h32 68 45) - 1)
  (f_M_next N h33).bind (fun x34 =>
  (bk.2.1) v31 a3 x34))
  else none))))
  else
  (F_M_sum_324 N bk a1 x27.2)))
  else
  (F_M_sum_324 N bk a1 x26.2)))
  else none)
  else none
def F_M_sum_225 (N : Nat) (bk : (MH → Option (Int32 × MH)) × (Int64 → Int32 → MH → Option (Int32 × MH)) × (Int64 → Int32 → MH → Option (Int32 × MH))) (a1 : Int64) (a3 : Int32) (as0 : Int64) (as1 : Int32) (h : MH) : Option (Int32 × MH) :=
  if inB as1 8 = true then
  (let h21 : MH := sJ h 91 (iN as1) as0
  if inB (gI h21 68 46) 8 = true then
  (let h22 : MH := sI h21 92 (iN (gI h21 68 46)) ((1 : Int32) &&& 1)
  (f_M_isSign N 42 h22).bind (fun x23 =>
  if x23.1 = 0 then
  (if inB (gI x23.2 68 46) 8 = true then
  (if inB (gI x23.2 68 46) 8 = true then
  (if (gI x23.2 93 (iN (gI x23.2 68 46))) = 0 then
  (if inB (gI x23.2 68 46) 8 = true then
  (F_M_sum_294 N bk a1 a3 (gJ x23.2 91 (iN (gI x23.2 68 46))) (gJ x23.2 90 (iN (gI x23.2 68 46))) (gI x23.2 68 46) x23.2)
  else none)
  else
  (if inB (gI x23.2 68 46) 8 = true then
  (F_M_sum_294 N bk a1 a3 (-(gJ x23.2 91 (iN (gI x23.2 68 46)))) (gJ x23.2 90 (iN (gI x23.2 68 46))) (gI x23.2 68 46) x23.2)
  else none))
  else none)
  else none)
  else
  ((bk.2.1) a1 0 x23.2)))
  else none)
  else none
def F_M_sum_190 (N : Nat) (bk : (MH → Option (Int32 × MH)) × (Int64 → Int32 → MH → Option (Int32 × MH)) × (Int64 → Int32 → MH → Option (Int32 × MH))) (a1 : Int64) (a3 : Int32) (h : MH) : Option (Int32 × MH) :=
  if inB (gI h 68 46) 8 = true then
  (if (gI h 92 (iN (gI h 68 46))) = 0 then
  (F_M_sum_225 N bk a1 a3 a1 (gI h 68 46) h)
  else
  (if inB (gI h 68 46) 8 = true then
  (F_M_sum_225 N bk a1 a3 ((gJ h 91 (iN (gI h 68 46))) * a1) (gI h 68 46) h)
  else none))
  else none
def F_M_sum_152 (N : Nat) (bk : (MH → Option (Int32 × MH)) × (Int64 → Int32 → MH → Option (Int32 × MH)) × (Int64 → Int32 → MH → Option (Int32 × MH))) (a1 : Int64) (a3 : Int32) (h : MH) : Option (Int32 × MH) :=
  if (gI h 68 45) ≤ 0 then
  (F_M_sum_190 N bk a1 a3 h)
  else
  (if inB ((gI h 68 45) - 1) 8 = true then
  (if (gI h 94 (iN ((gI h 68 45) - 1))) = 2 then
  (let v19 : Int64 := -a1
  let h20 : MH := sI h 68 45 ((gI h 68 45) - 1)
  (bk.2.2) v19 a3 h20)
  else
  (F_M_sum_190 N bk a1 a3 h))
  else none)
def F_M_sum_148 (N : Nat) (bk : (MH → Option (Int32 × MH)) × (Int64 → Int32 → MH → Option (Int32 × MH)) × (Int64 → Int32 → MH → Option (Int32 × MH))) (a1 : Int64) (a3 : Int32) (h : MH) : Option (Int32 × MH) :=
  if a3 = 0 then
  ((f_M_next N h).bind (fun x18 =>
  (bk.1) x18))
  else
  (F_M_sum_152 N bk a1 a3 h)
def F_M_sum_77 (N : Nat) (bk : (MH → Option (Int32 × MH)) × (Int64 → Int32 → MH → Option (Int32 × MH)) × (Int64 → Int32 → MH → Option (Int32 × MH))) (as0 : Int32) (as1 : Int32) (h : MH) : Option (Int32 × MH) :=
  if inB as1 8 = true then
  (let h11 : MH := sI h 94 (iN as1) as0
  let h12 : MH := sI h11 68 45 ((gI h11 68 45) + 1)
  (f_M_isSign N 40 h12).bind (fun x13 =>
  if x13.1 = 0 then
  ((f_M_next N x13.2).bind (fun x14 =>
  (bk.1) x14))
  else
  (let h15 : MH := sI x13.2 68 46 ((gI x13.2 68 46) + 1)
  (f_M_begin N (gI h15 68 46) h15).bind (fun x16 =>
  (f_M_next N x16).bind (fun x17 =>
  (bk.1) x17)))))
  else none
def F_M_sum_40 (N : Nat) (bk : (MH → Option (Int32 × MH)) × (Int64 → Int32 → MH → Option (Int32 × MH)) × (Int64 → Int32 → MH → Option (Int32 × MH))) (h : MH) : Option (Int32 × MH) :=
  if (gI h 68 45) = 6 then
  ((f_M_fails N 5 h).bind (fun x9 =>
  match narOK 1 x9.1 with
  | true => some (x9.1, x9.2)
  | false => none))
  else
  ((f_M_isSign N 40 h).bind (fun x10 =>
  if x10.1 = 0 then
  (F_M_sum_77 N bk 2 (gI h 68 45) x10.2)
  else
  (F_M_sum_77 N bk 1 (gI h 68 45) x10.2)))
def F_M_sum_15 (N : Nat) (bk : (MH → Option (Int32 × MH)) × (Int64 → Int32 → MH → Option (Int32 × MH)) × (Int64 → Int32 → MH → Option (Int32 × MH))) (h : MH) : Option (Int32 × MH) :=
  if (gI h 68 16) = 0 then
  ((f_M_isSign N 45 h).bind (fun x4 =>
  if x4.1 = 0 then
  ((f_M_isSign N 40 x4.2).bind (fun x5 =>
  if x5.1 = 0 then
  (if (gI x5.2 68 10) = 3 then
  (let v6 : Int64 := ((gI x5.2 68 13)).toInt64
  (f_M_next N x5.2).bind (fun x7 =>
  F_M_sum_148 N bk v6 1 x7))
  else
  ((f_M_fails N 2 x5.2).bind (fun x8 =>
  match narOK 1 x8.1 with
  | true => some (x8.1, x8.2)
  | false => none)))
  else
  (F_M_sum_40 N bk x5.2)))
  else
  (F_M_sum_40 N bk x4.2)))
  else
  (some (0, h))
def F_M_sum_0 (N : Nat) (bk : (MH → Option (Int32 × MH)) × (Int64 → Int32 → MH → Option (Int32 × MH)) × (Int64 → Int32 → MH → Option (Int32 × MH))) (h : MH) : Option (Int32 × MH) :=
  let h1 : MH := sI h 68 45 0
  let h2 : MH := sI h1 68 46 0
  (f_M_begin N 0 h2).bind (fun x3 =>
  F_M_sum_15 N bk x3)
def L_M_sum (N : Nat) : Nat → ((MH → Option (Int32 × MH)) × (Int64 → Int32 → MH → Option (Int32 × MH)) × (Int64 → Int32 → MH → Option (Int32 × MH)))
  | 0 => (fun _ => none, fun _ _ _ => none, fun _ _ _ => none)
  | n + 1 => (F_M_sum_15 N (L_M_sum N n), F_M_sum_148 N (L_M_sum N n), F_M_sum_152 N (L_M_sum N n))
def f_M_sum (N : Nat) (h : MH) : Option (Int32 × MH) := F_M_sum_0 N (L_M_sum N N) h
def C_M_sum (N : Nat) : MC := (KDL, false, (fun _ => 0), jsB, (fun j => match Nat.beq j 184 with
    | true => w_M_isSign (f_M_isSign N)
    | false => match Nat.beq j 186 with
    | true => w_M_fails (f_M_fails N)
    | false => fun _ _ => none), (fun _ _ _ => none), (fun _ _ _ => none), (fun j => match Nat.beq j 183 with
    | true => w_M_next (f_M_next N)
    | false => match Nat.beq j 201 with
    | true => w_M_begin (f_M_begin N)
    | false => fun _ _ => none))
def D_M_sum (N : Nat) (n pc : Nat) (lv : ML) (st : List MV) (h : MH) : Option (Int32 × MH) :=
  match Nat.beq pc 0 with
  | true => (match lk lv 0, st with
    | some (.inr (.inr (0, 12, 68))), [] => F_M_sum_0 N (L_M_sum N n) h
    | _, _ => none)
  | false => match Nat.beq pc 15 with
  | true => (match lk lv 0, st with
    | some (.inr (.inr (0, 12, 68))), [] => F_M_sum_15 N (L_M_sum N n) h
    | _, _ => none)
  | false => match Nat.beq pc 40 with
  | true => (match lk lv 0, st with
    | some (.inr (.inr (0, 12, 68))), [] => F_M_sum_40 N (L_M_sum N n) h
    | _, _ => none)
  | false => match Nat.beq pc 77 with
  | true => (match lk lv 0, st with
    | some (.inr (.inr (0, 12, 68))), [.inl as0, .inl as1, .inr (.inr (1, 8, 94))] => F_M_sum_77 N (L_M_sum N n) as0 as1 h
    | _, _ => none)
  | false => match Nat.beq pc 148 with
  | true => (match lk lv 0, lk lv 1, lk lv 3, st with
    | some (.inr (.inr (0, 12, 68))), some (.inr (.inl a1)), some (.inl a3), [] => F_M_sum_148 N (L_M_sum N n) a1 a3 h
    | _, _, _, _ => none)
  | false => match Nat.beq pc 152 with
  | true => (match lk lv 0, lk lv 1, lk lv 3, st with
    | some (.inr (.inr (0, 12, 68))), some (.inr (.inl a1)), some (.inl a3), [] => F_M_sum_152 N (L_M_sum N n) a1 a3 h
    | _, _, _, _ => none)
  | false => match Nat.beq pc 190 with
  | true => (match lk lv 0, lk lv 1, lk lv 3, st with
    | some (.inr (.inr (0, 12, 68))), some (.inr (.inl a1)), some (.inl a3), [] => F_M_sum_190 N (L_M_sum N n) a1 a3 h
    | _, _, _, _ => none)
  | false => match Nat.beq pc 225 with
  | true => (match lk lv 0, lk lv 1, lk lv 3, st with
    | some (.inr (.inr (0, 12, 68))), some (.inr (.inl a1)), some (.inl a3), [.inr (.inl as0), .inl as1, .inr (.inr (2, 8, 91))] => F_M_sum_225 N (L_M_sum N n) a1 a3 as0 as1 h
    | _, _, _, _ => none)
  | false => match Nat.beq pc 294 with
  | true => (match lk lv 0, lk lv 1, lk lv 3, st with
    | some (.inr (.inr (0, 12, 68))), some (.inr (.inl a1)), some (.inl a3), [.inr (.inl as0), .inr (.inl as1), .inl as2, .inr (.inr (2, 8, 90))] => F_M_sum_294 N (L_M_sum N n) a1 a3 as0 as1 as2 h
    | _, _, _, _ => none)
  | false => match Nat.beq pc 324 with
  | true => (match lk lv 0, lk lv 1, st with
    | some (.inr (.inr (0, 12, 68))), some (.inr (.inl a1)), [] => F_M_sum_324 N (L_M_sum N n) a1 h
    | _, _, _ => none)
  | false => none
def B_M_sum (N : Nat) (n pc : Nat) (lv : ML) (st : List MV) (h : MH) : Option (Int32 × MH) :=
  match Nat.beq pc 15 with
  | true => (match lk lv 0, st with
    | some (.inr (.inr (0, 12, 68))), [] => ((L_M_sum N n).1) h
    | _, _ => none)
  | false => match Nat.beq pc 148 with
  | true => (match lk lv 0, lk lv 1, lk lv 3, st with
    | some (.inr (.inr (0, 12, 68))), some (.inr (.inl a1)), some (.inl a3), [] => ((L_M_sum N n).2.1) a1 a3 h
    | _, _, _, _ => none)
  | false => match Nat.beq pc 152 with
  | true => (match lk lv 0, lk lv 1, lk lv 3, st with
    | some (.inr (.inr (0, 12, 68))), some (.inr (.inl a1)), some (.inl a3), [] => ((L_M_sum N n).2.2) a1 a3 h
    | _, _, _, _ => none)
  | false => none
set_option maxRecDepth 1000000 in
theorem E_M_sum_0 (N : Nat) (n : Nat) (h : MH) : seg (C_M_sum N) 4 1 rI T_M_sum [0, 15, 40, 77, 148, 152, 190, 225, 294, 324] (fun q lv st h => match Nat.ble 1 q with
    | true => D_M_sum N n q lv st h
    | false => B_M_sum N n q lv st h) 400 true 0 [(0, .inr (.inr (0, 12, 68)))] [] h = F_M_sum_0 N (L_M_sum N n) h := (rfl)
set_option maxRecDepth 1000000 in
theorem E_M_sum_15 (N : Nat) (n : Nat) (h : MH) : seg (C_M_sum N) 4 1 rI T_M_sum [0, 15, 40, 77, 148, 152, 190, 225, 294, 324] (fun q lv st h => match Nat.ble 16 q with
    | true => D_M_sum N n q lv st h
    | false => B_M_sum N n q lv st h) 400 true 15 [(0, .inr (.inr (0, 12, 68)))] [] h = F_M_sum_15 N (L_M_sum N n) h := (rfl)
set_option maxRecDepth 1000000 in
theorem E_M_sum_40 (N : Nat) (n : Nat) (h : MH) : seg (C_M_sum N) 4 1 rI T_M_sum [0, 15, 40, 77, 148, 152, 190, 225, 294, 324] (fun q lv st h => match Nat.ble 41 q with
    | true => D_M_sum N n q lv st h
    | false => B_M_sum N n q lv st h) 400 true 40 [(0, .inr (.inr (0, 12, 68)))] [] h = F_M_sum_40 N (L_M_sum N n) h := (rfl)
set_option maxRecDepth 1000000 in
theorem E_M_sum_77 (N : Nat) (n : Nat) (as0 : Int32) (as1 : Int32) (h : MH) : seg (C_M_sum N) 4 1 rI T_M_sum [0, 15, 40, 77, 148, 152, 190, 225, 294, 324] (fun q lv st h => match Nat.ble 78 q with
    | true => D_M_sum N n q lv st h
    | false => B_M_sum N n q lv st h) 400 true 77 [(0, .inr (.inr (0, 12, 68)))] [.inl as0, .inl as1, .inr (.inr (1, 8, 94))] h = F_M_sum_77 N (L_M_sum N n) as0 as1 h := (rfl)
set_option maxRecDepth 1000000 in
theorem E_M_sum_148 (N : Nat) (n : Nat) (a1 : Int64) (a3 : Int32) (h : MH) : seg (C_M_sum N) 4 1 rI T_M_sum [0, 15, 40, 77, 148, 152, 190, 225, 294, 324] (fun q lv st h => match Nat.ble 149 q with
    | true => D_M_sum N n q lv st h
    | false => B_M_sum N n q lv st h) 400 true 148 [(0, .inr (.inr (0, 12, 68))), (1, .inr (.inl a1)), (3, .inl a3)] [] h = F_M_sum_148 N (L_M_sum N n) a1 a3 h := (rfl)
set_option maxRecDepth 1000000 in
theorem E_M_sum_152 (N : Nat) (n : Nat) (a1 : Int64) (a3 : Int32) (h : MH) : seg (C_M_sum N) 4 1 rI T_M_sum [0, 15, 40, 77, 148, 152, 190, 225, 294, 324] (fun q lv st h => match Nat.ble 153 q with
    | true => D_M_sum N n q lv st h
    | false => B_M_sum N n q lv st h) 400 true 152 [(0, .inr (.inr (0, 12, 68))), (1, .inr (.inl a1)), (3, .inl a3)] [] h = F_M_sum_152 N (L_M_sum N n) a1 a3 h := (rfl)
set_option maxRecDepth 1000000 in
theorem E_M_sum_190 (N : Nat) (n : Nat) (a1 : Int64) (a3 : Int32) (h : MH) : seg (C_M_sum N) 4 1 rI T_M_sum [0, 15, 40, 77, 148, 152, 190, 225, 294, 324] (fun q lv st h => match Nat.ble 191 q with
    | true => D_M_sum N n q lv st h
    | false => B_M_sum N n q lv st h) 400 true 190 [(0, .inr (.inr (0, 12, 68))), (1, .inr (.inl a1)), (3, .inl a3)] [] h = F_M_sum_190 N (L_M_sum N n) a1 a3 h := (rfl)
set_option maxRecDepth 1000000 in
theorem E_M_sum_225 (N : Nat) (n : Nat) (a1 : Int64) (a3 : Int32) (as0 : Int64) (as1 : Int32) (h : MH) : seg (C_M_sum N) 4 1 rI T_M_sum [0, 15, 40, 77, 148, 152, 190, 225, 294, 324] (fun q lv st h => match Nat.ble 226 q with
    | true => D_M_sum N n q lv st h
    | false => B_M_sum N n q lv st h) 400 true 225 [(0, .inr (.inr (0, 12, 68))), (1, .inr (.inl a1)), (3, .inl a3)] [.inr (.inl as0), .inl as1, .inr (.inr (2, 8, 91))] h = F_M_sum_225 N (L_M_sum N n) a1 a3 as0 as1 h := (rfl)
set_option maxRecDepth 1000000 in
theorem E_M_sum_294 (N : Nat) (n : Nat) (a1 : Int64) (a3 : Int32) (as0 : Int64) (as1 : Int64) (as2 : Int32) (h : MH) : seg (C_M_sum N) 4 1 rI T_M_sum [0, 15, 40, 77, 148, 152, 190, 225, 294, 324] (fun q lv st h => match Nat.ble 295 q with
    | true => D_M_sum N n q lv st h
    | false => B_M_sum N n q lv st h) 400 true 294 [(0, .inr (.inr (0, 12, 68))), (1, .inr (.inl a1)), (3, .inl a3)] [.inr (.inl as0), .inr (.inl as1), .inl as2, .inr (.inr (2, 8, 90))] h = F_M_sum_294 N (L_M_sum N n) a1 a3 as0 as1 as2 h := (rfl)
set_option maxRecDepth 1000000 in
theorem E_M_sum_324 (N : Nat) (n : Nat) (a1 : Int64) (h : MH) : seg (C_M_sum N) 4 1 rI T_M_sum [0, 15, 40, 77, 148, 152, 190, 225, 294, 324] (fun q lv st h => match Nat.ble 325 q with
    | true => D_M_sum N n q lv st h
    | false => B_M_sum N n q lv st h) 400 true 324 [(0, .inr (.inr (0, 12, 68))), (1, .inr (.inl a1))] [] h = F_M_sum_324 N (L_M_sum N n) a1 h := (rfl)
set_option maxRecDepth 1000000 in
theorem chk_M_sum : chkT 12 false prog_14_method_38_code T_M_sum = true := by decide +kernel
theorem mc_M_sum : mC 200 = prog_14_method_38_code := by rfl
theorem mx_M_sum : mL 200 = 4 ∧ mR 200 = some .boolean ∧ mK 200 = 1 ∧ (mN 200).cls = cN 12 := by decide +kernel
theorem hD_M_sum (N : Nat) {r : Int32 × MH} : ∀ n pc lv st h, D_M_sum N n pc lv st h = some r → ∃ lv', (∀ q ∈ lv', q ∈ lv) ∧ seg (C_M_sum N) 4 1 rI T_M_sum [0, 15, 40, 77, 148, 152, 190, 225, 294, 324] (fun q lv st h => match Nat.ble (pc + 1) q with
    | true => D_M_sum N n q lv st h
    | false => B_M_sum N n q lv st h) 400 true pc lv' st h = some r := by
  intro n pc lv st h hf
  unfold D_M_sum at hf
  split at hf
  · rename_i hb
    have hb := Nat.eq_of_beq_eq_true hb
    subst hb
    split at hf
    · rename_i e0
      exact ⟨_, (sub_cons e0 sub_nil), (E_M_sum_0 N n h).trans hf⟩
    · cases hf
  · skip
    split at hf
    · rename_i hb
      have hb := Nat.eq_of_beq_eq_true hb
      subst hb
      split at hf
      · rename_i e0
        exact ⟨_, (sub_cons e0 sub_nil), (E_M_sum_15 N n h).trans hf⟩
      · cases hf
    · skip
      split at hf
      · rename_i hb
        have hb := Nat.eq_of_beq_eq_true hb
        subst hb
        split at hf
        · rename_i e0
          exact ⟨_, (sub_cons e0 sub_nil), (E_M_sum_40 N n h).trans hf⟩
        · cases hf
      · skip
        split at hf
        · rename_i hb
          have hb := Nat.eq_of_beq_eq_true hb
          subst hb
          split at hf
          · rename_i y0 y1 e0
            exact ⟨_, (sub_cons e0 sub_nil), (E_M_sum_77 N n _ _ h).trans hf⟩
          · cases hf
        · skip
          split at hf
          · rename_i hb
            have hb := Nat.eq_of_beq_eq_true hb
            subst hb
            split at hf
            · rename_i y0 y1 e0 e1 e2
              exact ⟨_, (sub_cons e0 (sub_cons e1 (sub_cons e2 sub_nil))), (E_M_sum_148 N n _ _ h).trans hf⟩
            · cases hf
          · skip
            split at hf
            · rename_i hb
              have hb := Nat.eq_of_beq_eq_true hb
              subst hb
              split at hf
              · rename_i y0 y1 e0 e1 e2
                exact ⟨_, (sub_cons e0 (sub_cons e1 (sub_cons e2 sub_nil))), (E_M_sum_152 N n _ _ h).trans hf⟩
              · cases hf
            · skip
              split at hf
              · rename_i hb
                have hb := Nat.eq_of_beq_eq_true hb
                subst hb
                split at hf
                · rename_i y0 y1 e0 e1 e2
                  exact ⟨_, (sub_cons e0 (sub_cons e1 (sub_cons e2 sub_nil))), (E_M_sum_190 N n _ _ h).trans hf⟩
                · cases hf
              · skip
                split at hf
                · rename_i hb
                  have hb := Nat.eq_of_beq_eq_true hb
                  subst hb
                  split at hf
                  · rename_i y0 y1 y2 y3 e0 e1 e2
                    exact ⟨_, (sub_cons e0 (sub_cons e1 (sub_cons e2 sub_nil))), (E_M_sum_225 N n _ _ _ _ h).trans hf⟩
                  · cases hf
                · skip
                  split at hf
                  · rename_i hb
                    have hb := Nat.eq_of_beq_eq_true hb
                    subst hb
                    split at hf
                    · rename_i y0 y1 y2 y3 y4 e0 e1 e2
                      exact ⟨_, (sub_cons e0 (sub_cons e1 (sub_cons e2 sub_nil))), (E_M_sum_294 N n _ _ _ _ _ h).trans hf⟩
                    · cases hf
                  · skip
                    split at hf
                    · rename_i hb
                      have hb := Nat.eq_of_beq_eq_true hb
                      subst hb
                      split at hf
                      · rename_i y0 e0 e1
                        exact ⟨_, (sub_cons e0 (sub_cons e1 sub_nil)), (E_M_sum_324 N n _ h).trans hf⟩
                      · cases hf
                    · skip
                      cases hf
theorem hM_M_sum (N : Nat) {r : Int32 × MH} : ∀ n pc lv st h, D_M_sum N n pc lv st h = some r → pc < 424 := by
  intro n pc lv st h hf
  unfold D_M_sum at hf
  split at hf
  · rename_i hb
    rw [Nat.eq_of_beq_eq_true hb]
    decide
  · skip
    split at hf
    · rename_i hb
      rw [Nat.eq_of_beq_eq_true hb]
      decide
    · skip
      split at hf
      · rename_i hb
        rw [Nat.eq_of_beq_eq_true hb]
        decide
      · skip
        split at hf
        · rename_i hb
          rw [Nat.eq_of_beq_eq_true hb]
          decide
        · skip
          split at hf
          · rename_i hb
            rw [Nat.eq_of_beq_eq_true hb]
            decide
          · skip
            split at hf
            · rename_i hb
              rw [Nat.eq_of_beq_eq_true hb]
              decide
            · skip
              split at hf
              · rename_i hb
                rw [Nat.eq_of_beq_eq_true hb]
                decide
              · skip
                split at hf
                · rename_i hb
                  rw [Nat.eq_of_beq_eq_true hb]
                  decide
                · skip
                  split at hf
                  · rename_i hb
                    rw [Nat.eq_of_beq_eq_true hb]
                    decide
                  · skip
                    split at hf
                    · rename_i hb
                      rw [Nat.eq_of_beq_eq_true hb]
                      decide
                    · skip
                      cases hf
theorem hB_M_sum (N : Nat) {r : Int32 × MH} : ∀ n pc lv st h, B_M_sum N n pc lv st h = some r → ∃ k, n = k + 1 ∧ D_M_sum N k pc lv st h = some r := by
  intro n pc lv st h hf
  unfold B_M_sum at hf
  split at hf
  · rename_i hb
    have hb := Nat.eq_of_beq_eq_true hb
    subst hb
    cases n with
    | zero =>
      split at hf
      · cases hf
      · cases hf
    | succ k =>
      refine ⟨k, rfl, ?_⟩
      exact hf
  · skip
    split at hf
    · rename_i hb
      have hb := Nat.eq_of_beq_eq_true hb
      subst hb
      cases n with
      | zero =>
        split at hf
        · cases hf
        · cases hf
      | succ k =>
        refine ⟨k, rfl, ?_⟩
        exact hf
    · skip
      split at hf
      · rename_i hb
        have hb := Nat.eq_of_beq_eq_true hb
        subst hb
        cases n with
        | zero =>
          split at hf
          · cases hf
          · cases hf
        | succ k =>
          refine ⟨k, rfl, ?_⟩
          exact hf
      · skip
        cases hf
theorem s_M_sum {l : Launch} {E : EV} {N : Nat} {as : List MV} {h : MH} {r : Int32 × MH} (hf : w_M_sum (f_M_sum N) as h = some r) : SndM l E false 2 200 as h (some (.inl r.1)) r.2 := by
  unfold w_M_sum at hf
  split at hf
  · obtain ⟨m1, m2, m3, m4⟩ := mx_M_sum
    refine snd_of (C := C_M_sum N) (own := 12) (rz := 1) (lim := 115) rI_eq m2 m4 pl_200 (TB_in _ cw_200 rfl) ⟨(fun _ => ⟨_, _, _, _, _, _, rfl, rfl, by rw [m4]; rfl⟩), (fun z => by rw [m3] at z; cases z)⟩ (fun z => by cases z) KDL_take rfl rfl (fun z => by cases z) (fun z => by cases z) (fun _ => rfl) (by rw [m1]; exact Nat.le_of_ble_eq_true rfl)
      (fun j as h x z => by
      dsimp only [C_M_sum] at z
      cases hb : Nat.beq j 184 with
      | true =>
        have hb := Nat.eq_of_beq_eq_true hb
        subst hb
        exact ⟨0, by decide, (fun z => by cases z), s_M_isSign z⟩
      | false =>
        rw [hb] at z
        dsimp only at z
        cases hb : Nat.beq j 186 with
        | true =>
          have hb := Nat.eq_of_beq_eq_true hb
          subst hb
          exact ⟨1, by decide, (fun z => by cases z), s_M_fails z⟩
        | false =>
          rw [hb] at z
          dsimp only at z
          cases z)
      (fun _ _ _ _ z => by cases z)
      (fun _ _ _ _ z => by cases z)
      (fun j as h x z => by
      dsimp only [C_M_sum] at z
      cases hb : Nat.beq j 183 with
      | true =>
        have hb := Nat.eq_of_beq_eq_true hb
        subst hb
        exact ⟨1, by decide, (fun z => by cases z), s_M_next z⟩
      | false =>
        rw [hb] at z
        dsimp only at z
        cases hb : Nat.beq j 201 with
        | true =>
          have hb := Nat.eq_of_beq_eq_true hb
          subst hb
          exact ⟨0, by decide, (fun z => by cases z), s_M_begin z⟩
        | false =>
          rw [hb] at z
          dsimp only at z
          cases z)
      (fun p e R s m args below meth c Q n0 F hret => ?_)
    rw [m1] at F hret ⊢
    rw [mc_M_sum] at F hret
    exact cuts_s (K := 400) (M := 424) (D := D_M_sum N) (B := B_M_sum N) F hret (chkT_ok chk_M_sum) (hM_M_sum N) (hB_M_sum N) (hD_M_sum N) N 0 _ _ _ hf
  · cases hf
def T_M_moving : List (List (Option RW)) := [
  [some (.aload_n 0, 1, [0], 0, 0), some (.getfield 217, 3, [12, 11, 0], 0, 0), none, none, some (.istore_n 1, 1, [1], 0, 0), some (.aload_n 0, 1, [0], 0, 0), some (.invokevirtual 263, 3, [0, 183, 1, 3], 0, 0), none, none, some (.aload_n 0, 1, [0], 0, 0), some (.invokevirtual 302, 3, [0, 194, 1, 0], 0, 0), none, none, some (.ifCond .ne 5, 3, [18], 0, 0), none, none, some (.iconst 0, 1, [], 0, 0), some (.ireturn, 1, [], 0, 0), some (.aload_n 0, 1, [0], 0, 0), some (.getfield 275, 3, [12, 39, 0], 0, 0), none, none, some (.istore_n 2, 1, [2], 0, 0), some (.aload_n 0, 1, [0], 0, 0), some (.invokevirtual 278, 3, [0, 190, 1, 1], 0, 0), none, none, some (.lstore_n 3, 1, [3], 0, 0), some (.lload_n 3, 1, [3], 0, 0), some (.ldc2_w 199, 3, [], 0, (-1)), none, none],
  [some (.lcmp, 1, [], 0, 0), some (.ifCond .ne 9, 3, [42], 0, 0), none, none, some (.aload_n 0, 1, [0], 0, 0), some (.iconst 2, 1, [], 2, 0), some (.invokevirtual 260, 3, [0, 186, 2, 0], 0, 0), none, none, some (.ireturn, 1, [], 0, 0), some (.aload_n 0, 1, [0], 0, 0), some (.lload_n 3, 1, [3], 0, 0), some (.invokevirtual 289, 3, [0, 192, 2, 0], 0, 0), none, none, some (.istore 5, 2, [5], 0, 0), none, some (.iload 5, 2, [5], 0, 0), none, some (.iconst (-1), 1, [], (-1), 0), some (.if_icmp .ne 9, 3, [61], 0, 0), none, none, some (.aload_n 0, 1, [0], 0, 0), some (.iconst 3, 1, [], 3, 0), some (.invokevirtual 260, 3, [0, 186, 2, 0], 0, 0), none, none, some (.ireturn, 1, [], 0, 0), some (.aload_n 0, 1, [0], 0, 0), some (.invokevirtual 263, 3, [0, 183, 1, 3], 0, 0), none],
  [none, some (.aload_n 0, 1, [0], 0, 0), some (.getfield 217, 3, [12, 11, 0], 0, 0), none, none, some (.istore 6, 2, [6], 0, 0), none, some (.aload_n 0, 1, [0], 0, 0), some (.invokevirtual 305, 3, [0, 200, 1, 0], 0, 0), none, none, some (.ifCond .eq 10, 3, [85], 0, 0), none, none, some (.aload_n 0, 1, [0], 0, 0), some (.invokevirtual 298, 3, [0, 189, 1, 0], 0, 0), none, none, some (.ifCond .ne 5, 3, [87], 0, 0), none, none, some (.iconst 0, 1, [], 0, 0), some (.ireturn, 1, [], 0, 0), some (.aload_n 0, 1, [0], 0, 0), some (.getfield 69, 3, [12, 27, 2, 4, 48, 16], 0, 0), none, none, some (.bipush 8, 2, [], 8, 0), none, some (.iload_n 2, 1, [2], 0, 0), some (.imul, 1, [], 0, 0), some (.iload 5, 2, [5], 0, 0)],
  [none, some (.iadd, 1, [], 0, 0), some (.baload, 1, [], 0, 0), some (.ifCond .eq 11, 3, [110], 0, 0), none, none, some (.aload_n 0, 1, [0], 0, 0), some (.bipush 6, 2, [], 6, 0), none, some (.iload_n 1, 1, [1], 0, 0), some (.invokevirtual 250, 3, [0, 187, 3, 0], 0, 0), none, none, some (.ireturn, 1, [], 0, 0), some (.aload_n 0, 1, [0], 0, 0), some (.getfield 308, 3, [12, 47, 1], 0, 0), none, none, some (.ldc2_w 311, 3, [], 0, (-9)), none, none, some (.lcmp, 1, [], 0, 0), some (.ifCond .lt 14, 3, [132], 0, 0), none, none, some (.aload_n 0, 1, [0], 0, 0), some (.getfield 308, 3, [12, 47, 1], 0, 0), none, none, some (.ldc2_w 313, 3, [], 0, 9), none, none],
  [some (.lcmp, 1, [], 0, 0), some (.ifCond .le 11, 3, [140], 0, 0), none, none, some (.aload_n 0, 1, [0], 0, 0), some (.iconst 5, 1, [], 5, 0), some (.iload 6, 2, [6], 0, 0), none, some (.invokevirtual 250, 3, [0, 187, 3, 0], 0, 0), none, none, some (.ireturn, 1, [], 0, 0), some (.aload_n 0, 1, [0], 0, 0), some (.getfield 69, 3, [12, 27, 2, 4, 48, 16], 0, 0), none, none, some (.bipush 8, 2, [], 8, 0), none, some (.iload_n 2, 1, [2], 0, 0), some (.imul, 1, [], 0, 0), some (.iload 5, 2, [5], 0, 0), none, some (.iadd, 1, [], 0, 0), some (.iconst 1, 1, [], 1, 0), some (.bastore, 1, [], 0, 0), some (.aload_n 0, 1, [0], 0, 0), some (.getfield 59, 3, [12, 24, 2, 1, 48, 13], 0, 0), none, none, some (.bipush 8, 2, [], 8, 0), none, some (.iload_n 2, 1, [2], 0, 0)],
  [some (.imul, 1, [], 0, 0), some (.iload 5, 2, [5], 0, 0), none, some (.iadd, 1, [], 0, 0), some (.aload_n 0, 1, [0], 0, 0), some (.getfield 308, 3, [12, 47, 1], 0, 0), none, none, some (.l2i, 1, [], 0, 0), some (.iastore, 1, [], 0, 0), some (.iconst 1, 1, [], 1, 0), some (.ireturn, 1, [], 0, 0)]]
def f_M_moving (N : Nat) (h : MH) : Option (Int32 × MH) :=
  let v1 : Int32 := gI h 68 11
  (f_M_next N h).bind (fun x2 =>
  (f_M_cell N x2).bind (fun x3 =>
  if x3.1 = 0 then
  (some (0, x3.2))
  else
  (let v4 : Int32 := gI x3.2 68 39
  (f_M_nameHere N x3.2).bind (fun x5 =>
  if (lg_cmp x5.1 ((-1))) = 0 then
  ((f_M_fails N 2 x5.2).bind (fun x6 =>
  match narOK 1 x6.1 with
  | true => some (x6.1, x6.2)
  | false => none))
  else
  ((f_M_markOf N x5.1 x5.2).bind (fun x7 =>
  if x7.1 = ((-1)) then
  ((f_M_fails N 3 x7.2).bind (fun x8 =>
  match narOK 1 x8.1 with
  | true => some (x8.1, x8.2)
  | false => none))
  else
  ((f_M_next N x7.2).bind (fun x9 =>
  let v10 : Int32 := gI x9 68 11
  (f_M_sum N x9).bind (fun x11 =>
  if x11.1 = 0 then
  (some (0, x11.2))
  else
  ((f_M_wantEnd N x11.2).bind (fun x12 =>
  if x12.1 = 0 then
  (some (0, x12.2))
  else
  (if inB ((8 * v4) + x7.1) 48 = true then
  (if (gI x12.2 84 (iN ((8 * v4) + x7.1))) = 0 then
  (if (lg_cmp (gJ x12.2 68 47) ((-9))) < 0 then
  ((f_M_failsAt N 5 v10 x12.2).bind (fun x13 =>
  match narOK 1 x13.1 with
  | true => some (x13.1, x13.2)
  | false => none))
  else
  (if (lg_cmp (gJ x12.2 68 47) 9) ≤ 0 then
  (if inB ((8 * v4) + x7.1) 48 = true then
  (let h14 : MH := sI x12.2 84 (iN ((8 * v4) + x7.1)) ((1 : Int32) &&& 1)
  if inB ((8 * v4) + x7.1) 48 = true then
  (let h15 : MH := sI h14 81 (iN ((8 * v4) + x7.1)) (Int64.toInt32 (gJ h14 68 47))
  some (1, h15))
  else none)
  else none)
  else
  ((f_M_failsAt N 5 v10 x12.2).bind (fun x16 =>
  match narOK 1 x16.1 with
  | true => some (x16.1, x16.2)
  | false => none))))
  else
  ((f_M_failsAt N 6 v1 x12.2).bind (fun x17 =>
  match narOK 1 x17.1 with
  | true => some (x17.1, x17.2)
  | false => none)))
  else none))))))))))))
def C_M_moving (N : Nat) : MC := (KDL, false, (fun _ => 0), jsB, (fun j => match Nat.beq j 186 with
    | true => w_M_fails (f_M_fails N)
    | false => match Nat.beq j 187 with
    | true => w_M_failsAt (f_M_failsAt N)
    | false => match Nat.beq j 189 with
    | true => w_M_wantEnd (f_M_wantEnd N)
    | false => match Nat.beq j 192 with
    | true => w_M_markOf (f_M_markOf N)
    | false => match Nat.beq j 194 with
    | true => w_M_cell (f_M_cell N)
    | false => match Nat.beq j 200 with
    | true => w_M_sum (f_M_sum N)
    | false => fun _ _ => none), (fun j => match Nat.beq j 190 with
    | true => w_M_nameHere (f_M_nameHere N)
    | false => fun _ _ => none), (fun _ _ _ => none), (fun j => match Nat.beq j 183 with
    | true => w_M_next (f_M_next N)
    | false => fun _ _ => none))
def D_M_moving (N : Nat) (n pc : Nat) (lv : ML) (st : List MV) (h : MH) : Option (Int32 × MH) :=
  match Nat.beq pc 0 with
  | true => (match lk lv 0, st with
    | some (.inr (.inr (0, 12, 68))), [] => f_M_moving N h
    | _, _ => none)
  | false => none
set_option maxRecDepth 1000000 in
theorem E_M_moving_0 (N : Nat) (n : Nat) (h : MH) : seg (C_M_moving N) 7 1 rI T_M_moving [0] (fun q lv st h => match Nat.ble 1 q with
    | true => D_M_moving N n q lv st h
    | false => none) 400 true 0 [(0, .inr (.inr (0, 12, 68)))] [] h = f_M_moving N h := (rfl)
set_option maxRecDepth 1000000 in
theorem chk_M_moving : chkT 12 false prog_14_method_37_code T_M_moving = true := by decide +kernel
theorem mc_M_moving : mC 199 = prog_14_method_37_code := by rfl
theorem mx_M_moving : mL 199 = 7 ∧ mR 199 = some .boolean ∧ mK 199 = 1 ∧ (mN 199).cls = cN 12 := by decide +kernel
theorem hD_M_moving (N : Nat) {r : Int32 × MH} : ∀ n pc lv st h, D_M_moving N n pc lv st h = some r → ∃ lv', (∀ q ∈ lv', q ∈ lv) ∧ seg (C_M_moving N) 7 1 rI T_M_moving [0] (fun q lv st h => match Nat.ble (pc + 1) q with
    | true => D_M_moving N n q lv st h
    | false => none) 400 true pc lv' st h = some r := by
  intro n pc lv st h hf
  unfold D_M_moving at hf
  split at hf
  · rename_i hb
    have hb := Nat.eq_of_beq_eq_true hb
    subst hb
    split at hf
    · rename_i e0
      exact ⟨_, (sub_cons e0 sub_nil), (E_M_moving_0 N n h).trans hf⟩
    · cases hf
  · skip
    cases hf
theorem hM_M_moving (N : Nat) {r : Int32 × MH} : ∀ n pc lv st h, D_M_moving N n pc lv st h = some r → pc < 172 := by
  intro n pc lv st h hf
  unfold D_M_moving at hf
  split at hf
  · rename_i hb
    rw [Nat.eq_of_beq_eq_true hb]
    decide
  · skip
    cases hf
theorem s_M_moving {l : Launch} {E : EV} {N : Nat} {as : List MV} {h : MH} {r : Int32 × MH} (hf : w_M_moving (f_M_moving N) as h = some r) : SndM l E false 7 199 as h (some (.inl r.1)) r.2 := by
  unfold w_M_moving at hf
  split at hf
  · obtain ⟨m1, m2, m3, m4⟩ := mx_M_moving
    refine snd_of (C := C_M_moving N) (own := 12) (rz := 1) (lim := 115) rI_eq m2 m4 pl_199 (TB_in _ cw_199 rfl) ⟨(fun _ => ⟨_, _, _, _, _, _, rfl, rfl, by rw [m4]; rfl⟩), (fun z => by rw [m3] at z; cases z)⟩ (fun z => by cases z) KDL_take rfl rfl (fun z => by cases z) (fun z => by cases z) (fun _ => rfl) (by rw [m1]; exact Nat.le_of_ble_eq_true rfl)
      (fun j as h x z => by
      dsimp only [C_M_moving] at z
      cases hb : Nat.beq j 186 with
      | true =>
        have hb := Nat.eq_of_beq_eq_true hb
        subst hb
        exact ⟨1, by decide, (fun z => by cases z), s_M_fails z⟩
      | false =>
        rw [hb] at z
        dsimp only at z
        cases hb : Nat.beq j 187 with
        | true =>
          have hb := Nat.eq_of_beq_eq_true hb
          subst hb
          exact ⟨0, by decide, (fun z => by cases z), s_M_failsAt z⟩
        | false =>
          rw [hb] at z
          dsimp only at z
          cases hb : Nat.beq j 189 with
          | true =>
            have hb := Nat.eq_of_beq_eq_true hb
            subst hb
            exact ⟨2, by decide, (fun z => by cases z), s_M_wantEnd z⟩
          | false =>
            rw [hb] at z
            dsimp only at z
            cases hb : Nat.beq j 192 with
            | true =>
              have hb := Nat.eq_of_beq_eq_true hb
              subst hb
              exact ⟨0, by decide, (fun z => by cases z), s_M_markOf z⟩
            | false =>
              rw [hb] at z
              dsimp only at z
              cases hb : Nat.beq j 194 with
              | true =>
                have hb := Nat.eq_of_beq_eq_true hb
                subst hb
                exact ⟨6, by decide, (fun z => by cases z), s_M_cell z⟩
              | false =>
                rw [hb] at z
                dsimp only at z
                cases hb : Nat.beq j 200 with
                | true =>
                  have hb := Nat.eq_of_beq_eq_true hb
                  subst hb
                  exact ⟨2, by decide, (fun z => by cases z), s_M_sum z⟩
                | false =>
                  rw [hb] at z
                  dsimp only at z
                  cases z)
      (fun j as h x z => by
      dsimp only [C_M_moving] at z
      cases hb : Nat.beq j 190 with
      | true =>
        have hb := Nat.eq_of_beq_eq_true hb
        subst hb
        exact ⟨5, by decide, (fun z => by cases z), s_M_nameHere z⟩
      | false =>
        rw [hb] at z
        dsimp only at z
        cases z)
      (fun _ _ _ _ z => by cases z)
      (fun j as h x z => by
      dsimp only [C_M_moving] at z
      cases hb : Nat.beq j 183 with
      | true =>
        have hb := Nat.eq_of_beq_eq_true hb
        subst hb
        exact ⟨1, by decide, (fun z => by cases z), s_M_next z⟩
      | false =>
        rw [hb] at z
        dsimp only at z
        cases z)
      (fun p e R s m args below meth c Q n0 F hret => ?_)
    rw [m1] at F hret ⊢
    rw [mc_M_moving] at F hret
    exact cuts_s (K := 400) (M := 172) (D := D_M_moving N) (B := fun _ _ _ _ _ => none) F hret (chkT_ok chk_M_moving) (hM_M_moving N) (fun _ _ _ _ _ z => by cases z) (hD_M_moving N) N 0 _ _ _ hf
  · cases hf
def T_M_part : List (List (Option RW)) := [
  [some (.aload_n 0, 1, [0], 0, 0), some (.invokevirtual 257, 3, [0, 185, 1, 0], 0, 0), none, none, some (.istore_n 1, 1, [1], 0, 0), some (.iload_n 1, 1, [1], 0, 0), some (.iconst (-1), 1, [], (-1), 0), some (.if_icmp .eq 8, 3, [15], 0, 0), none, none, some (.iload_n 1, 1, [1], 0, 0), some (.iconst 4, 1, [], 4, 0), some (.if_icmp .le 9, 3, [21], 0, 0), none, none, some (.aload_n 0, 1, [0], 0, 0), some (.iconst 2, 1, [], 2, 0), some (.invokevirtual 260, 3, [0, 186, 2, 0], 0, 0), none, none, some (.ireturn, 1, [], 0, 0), some (.iload_n 1, 1, [1], 0, 0), some (.ifCond .ne 10, 3, [32], 0, 0), none, none, some (.aload_n 0, 1, [0], 0, 0), some (.invokevirtual 324, 3, [0, 195, 1, 0], 0, 0), none, none, some (.goto 43, 3, [72], 0, 0), none, none],
  [some (.iload_n 1, 1, [1], 0, 0), some (.iconst 1, 1, [], 1, 0), some (.if_icmp .ne 10, 3, [44], 0, 0), none, none, some (.aload_n 0, 1, [0], 0, 0), some (.invokevirtual 327, 3, [0, 196, 1, 0], 0, 0), none, none, some (.goto 31, 3, [72], 0, 0), none, none, some (.iload_n 1, 1, [1], 0, 0), some (.iconst 2, 1, [], 2, 0), some (.if_icmp .ne 10, 3, [56], 0, 0), none, none, some (.aload_n 0, 1, [0], 0, 0), some (.invokevirtual 330, 3, [0, 197, 1, 0], 0, 0), none, none, some (.goto 19, 3, [72], 0, 0), none, none, some (.iload_n 1, 1, [1], 0, 0), some (.iconst 3, 1, [], 3, 0), some (.if_icmp .ne 10, 3, [68], 0, 0), none, none, some (.aload_n 0, 1, [0], 0, 0), some (.invokevirtual 333, 3, [0, 199, 1, 0], 0, 0), none],
  [none, some (.goto 7, 3, [72], 0, 0), none, none, some (.aload_n 0, 1, [0], 0, 0), some (.invokevirtual 336, 3, [0, 198, 1, 0], 0, 0), none, none, some (.istore_n 2, 1, [2], 0, 0), some (.iload_n 2, 1, [2], 0, 0), some (.ifCond .ne 5, 3, [79], 0, 0), none, none, some (.iconst 0, 1, [], 0, 0), some (.ireturn, 1, [], 0, 0), some (.aload_n 0, 1, [0], 0, 0), some (.invokevirtual 263, 3, [0, 183, 1, 3], 0, 0), none, none, some (.aload_n 0, 1, [0], 0, 0), some (.dup, 1, [], 0, 0), some (.getfield 339, 3, [12, 31, 0], 0, 0), none, none, some (.iconst 1, 1, [], 1, 0), some (.iadd, 1, [], 0, 0), some (.putfield 339, 3, [12, 31, 0], 0, 0), none, none, some (.iconst 1, 1, [], 1, 0), some (.ireturn, 1, [], 0, 0)]]
def F_M_part_72 (N : Nat) (as0 : Int32) (h : MH) : Option (Int32 × MH) :=
  if as0 = 0 then
  (some (0, h))
  else
  ((f_M_next N h).bind (fun x9 =>
  let h10 : MH := sI x9 68 31 ((gI x9 68 31) + 1)
  some (1, h10)))
def f_M_part (N : Nat) (h : MH) : Option (Int32 × MH) :=
  (f_M_key N h).bind (fun x1 =>
  if x1.1 = ((-1)) then
  ((f_M_fails N 2 x1.2).bind (fun x2 =>
  match narOK 1 x2.1 with
  | true => some (x2.1, x2.2)
  | false => none))
  else
  (if x1.1 ≤ 4 then
  (if x1.1 = 0 then
  ((f_M_sheet N x1.2).bind (fun x3 =>
  F_M_part_72 N x3.1 x3.2))
  else
  (if x1.1 = 1 then
  ((f_M_mark N x1.2).bind (fun x4 =>
  F_M_part_72 N x4.1 x4.2))
  else
  (if x1.1 = 2 then
  ((f_M_near N x1.2).bind (fun x5 =>
  F_M_part_72 N x5.1 x5.2))
  else
  (if x1.1 = 3 then
  ((f_M_moving N x1.2).bind (fun x6 =>
  F_M_part_72 N x6.1 x6.2))
  else
  ((f_M_stuck N x1.2).bind (fun x7 =>
  F_M_part_72 N x7.1 x7.2))))))
  else
  ((f_M_fails N 2 x1.2).bind (fun x8 =>
  match narOK 1 x8.1 with
  | true => some (x8.1, x8.2)
  | false => none))))
def C_M_part (N : Nat) : MC := (KDL, false, (fun _ => 0), jsB, (fun j => match Nat.beq j 185 with
    | true => w_M_key (f_M_key N)
    | false => match Nat.beq j 186 with
    | true => w_M_fails (f_M_fails N)
    | false => match Nat.beq j 195 with
    | true => w_M_sheet (f_M_sheet N)
    | false => match Nat.beq j 196 with
    | true => w_M_mark (f_M_mark N)
    | false => match Nat.beq j 197 with
    | true => w_M_near (f_M_near N)
    | false => match Nat.beq j 198 with
    | true => w_M_stuck (f_M_stuck N)
    | false => match Nat.beq j 199 with
    | true => w_M_moving (f_M_moving N)
    | false => fun _ _ => none), (fun _ _ _ => none), (fun _ _ _ => none), (fun j => match Nat.beq j 183 with
    | true => w_M_next (f_M_next N)
    | false => fun _ _ => none))
def D_M_part (N : Nat) (n pc : Nat) (lv : ML) (st : List MV) (h : MH) : Option (Int32 × MH) :=
  match Nat.beq pc 0 with
  | true => (match lk lv 0, st with
    | some (.inr (.inr (0, 12, 68))), [] => f_M_part N h
    | _, _ => none)
  | false => match Nat.beq pc 72 with
  | true => (match lk lv 0, st with
    | some (.inr (.inr (0, 12, 68))), [.inl as0] => F_M_part_72 N as0 h
    | _, _ => none)
  | false => none
set_option maxRecDepth 1000000 in
theorem E_M_part_0 (N : Nat) (n : Nat) (h : MH) : seg (C_M_part N) 3 1 rI T_M_part [0, 72] (fun q lv st h => match Nat.ble 1 q with
    | true => D_M_part N n q lv st h
    | false => none) 400 true 0 [(0, .inr (.inr (0, 12, 68)))] [] h = f_M_part N h := (rfl)
set_option maxRecDepth 1000000 in
theorem E_M_part_72 (N : Nat) (n : Nat) (as0 : Int32) (h : MH) : seg (C_M_part N) 3 1 rI T_M_part [0, 72] (fun q lv st h => match Nat.ble 73 q with
    | true => D_M_part N n q lv st h
    | false => none) 400 true 72 [(0, .inr (.inr (0, 12, 68)))] [.inl as0] h = F_M_part_72 N as0 h := (rfl)
set_option maxRecDepth 1000000 in
theorem chk_M_part : chkT 12 false prog_14_method_40_code T_M_part = true := by decide +kernel
theorem mc_M_part : mC 202 = prog_14_method_40_code := by rfl
theorem mx_M_part : mL 202 = 3 ∧ mR 202 = some .boolean ∧ mK 202 = 1 ∧ (mN 202).cls = cN 12 := by decide +kernel
theorem hD_M_part (N : Nat) {r : Int32 × MH} : ∀ n pc lv st h, D_M_part N n pc lv st h = some r → ∃ lv', (∀ q ∈ lv', q ∈ lv) ∧ seg (C_M_part N) 3 1 rI T_M_part [0, 72] (fun q lv st h => match Nat.ble (pc + 1) q with
    | true => D_M_part N n q lv st h
    | false => none) 400 true pc lv' st h = some r := by
  intro n pc lv st h hf
  unfold D_M_part at hf
  split at hf
  · rename_i hb
    have hb := Nat.eq_of_beq_eq_true hb
    subst hb
    split at hf
    · rename_i e0
      exact ⟨_, (sub_cons e0 sub_nil), (E_M_part_0 N n h).trans hf⟩
    · cases hf
  · skip
    split at hf
    · rename_i hb
      have hb := Nat.eq_of_beq_eq_true hb
      subst hb
      split at hf
      · rename_i y0 e0
        exact ⟨_, (sub_cons e0 sub_nil), (E_M_part_72 N n _ h).trans hf⟩
      · cases hf
    · skip
      cases hf
theorem hM_M_part (N : Nat) {r : Int32 × MH} : ∀ n pc lv st h, D_M_part N n pc lv st h = some r → pc < 95 := by
  intro n pc lv st h hf
  unfold D_M_part at hf
  split at hf
  · rename_i hb
    rw [Nat.eq_of_beq_eq_true hb]
    decide
  · skip
    split at hf
    · rename_i hb
      rw [Nat.eq_of_beq_eq_true hb]
      decide
    · skip
      cases hf
theorem s_M_part {l : Launch} {E : EV} {N : Nat} {as : List MV} {h : MH} {r : Int32 × MH} (hf : w_M_part (f_M_part N) as h = some r) : SndM l E false 8 202 as h (some (.inl r.1)) r.2 := by
  unfold w_M_part at hf
  split at hf
  · obtain ⟨m1, m2, m3, m4⟩ := mx_M_part
    refine snd_of (C := C_M_part N) (own := 12) (rz := 1) (lim := 115) rI_eq m2 m4 pl_202 (TB_in _ cw_202 rfl) ⟨(fun _ => ⟨_, _, _, _, _, _, rfl, rfl, by rw [m4]; rfl⟩), (fun z => by rw [m3] at z; cases z)⟩ (fun z => by cases z) KDL_take rfl rfl (fun z => by cases z) (fun z => by cases z) (fun _ => rfl) (by rw [m1]; exact Nat.le_of_ble_eq_true rfl)
      (fun j as h x z => by
      dsimp only [C_M_part] at z
      cases hb : Nat.beq j 185 with
      | true =>
        have hb := Nat.eq_of_beq_eq_true hb
        subst hb
        exact ⟨4, by decide, (fun z => by cases z), s_M_key z⟩
      | false =>
        rw [hb] at z
        dsimp only at z
        cases hb : Nat.beq j 186 with
        | true =>
          have hb := Nat.eq_of_beq_eq_true hb
          subst hb
          exact ⟨1, by decide, (fun z => by cases z), s_M_fails z⟩
        | false =>
          rw [hb] at z
          dsimp only at z
          cases hb : Nat.beq j 195 with
          | true =>
            have hb := Nat.eq_of_beq_eq_true hb
            subst hb
            exact ⟨6, by decide, (fun z => by cases z), s_M_sheet z⟩
          | false =>
            rw [hb] at z
            dsimp only at z
            cases hb : Nat.beq j 196 with
            | true =>
              have hb := Nat.eq_of_beq_eq_true hb
              subst hb
              exact ⟨6, by decide, (fun z => by cases z), s_M_mark z⟩
            | false =>
              rw [hb] at z
              dsimp only at z
              cases hb : Nat.beq j 197 with
              | true =>
                have hb := Nat.eq_of_beq_eq_true hb
                subst hb
                exact ⟨7, by decide, (fun z => by cases z), s_M_near z⟩
              | false =>
                rw [hb] at z
                dsimp only at z
                cases hb : Nat.beq j 198 with
                | true =>
                  have hb := Nat.eq_of_beq_eq_true hb
                  subst hb
                  exact ⟨7, by decide, (fun z => by cases z), s_M_stuck z⟩
                | false =>
                  rw [hb] at z
                  dsimp only at z
                  cases hb : Nat.beq j 199 with
                  | true =>
                    have hb := Nat.eq_of_beq_eq_true hb
                    subst hb
                    exact ⟨7, by decide, (fun z => by cases z), s_M_moving z⟩
                  | false =>
                    rw [hb] at z
                    dsimp only at z
                    cases z)
      (fun _ _ _ _ z => by cases z)
      (fun _ _ _ _ z => by cases z)
      (fun j as h x z => by
      dsimp only [C_M_part] at z
      cases hb : Nat.beq j 183 with
      | true =>
        have hb := Nat.eq_of_beq_eq_true hb
        subst hb
        exact ⟨1, by decide, (fun z => by cases z), s_M_next z⟩
      | false =>
        rw [hb] at z
        dsimp only at z
        cases z)
      (fun p e R s m args below meth c Q n0 F hret => ?_)
    rw [m1] at F hret ⊢
    rw [mc_M_part] at F hret
    exact cuts_s (K := 400) (M := 95) (D := D_M_part N) (B := fun _ _ _ _ _ => none) F hret (chkT_ok chk_M_part) (hM_M_part N) (fun _ _ _ _ _ z => by cases z) (hD_M_part N) N 0 _ _ _ hf
  · cases hf
def T_M_land : List (List (Option RW)) := [
  [some (.iload_n 1, 1, [1], 0, 0), some (.ifCond .lt 11, 3, [12], 0, 0), none, none, some (.iload_n 1, 1, [1], 0, 0), some (.aload_n 0, 1, [0], 0, 0), some (.getfield 201, 3, [12, 8, 0], 0, 0), none, none, some (.if_icmp .le 9, 3, [18], 0, 0), none, none, some (.aload_n 0, 1, [0], 0, 0), some (.iconst 1, 1, [], 1, 0), some (.invokevirtual 342, 3, [0, 168, 2, 0], 0, 0), none, none, some (.ireturn, 1, [], 0, 0), some (.aload_n 0, 1, [0], 0, 0), some (.iload_n 1, 1, [1], 0, 0), some (.putfield 208, 3, [12, 9, 0], 0, 0), none, none, some (.iconst 0, 1, [], 0, 0), some (.istore_n 2, 1, [2], 0, 0), some (.iload_n 2, 1, [2], 0, 0), some (.iload_n 1, 1, [1], 0, 0), some (.if_icmp .ge 21, 3, [48], 0, 0), none, none, some (.aload_n 0, 1, [0], 0, 0), some (.getfield 28, 3, [12, 7, 2, 3, 600, 5], 0, 0)],
  [none, none, some (.iload_n 2, 1, [2], 0, 0), some (.aload_n 0, 1, [0], 0, 0), some (.getfield 24, 3, [12, 6, 2, 3, 600, 4], 0, 0), none, none, some (.iload_n 2, 1, [2], 0, 0), some (.baload, 1, [], 0, 0), some (.bastore, 1, [], 0, 0), some (.iinc 2 1, 3, [2], 1, 0), none, none, some (.goto (-20), 3, [25], 0, 0), none, none, some (.aload_n 0, 1, [0], 0, 0), some (.iconst 0, 1, [], 0, 0), some (.putfield 201, 3, [12, 8, 0], 0, 0), none, none, some (.aload_n 0, 1, [0], 0, 0), some (.iconst 0, 1, [], 0, 0), some (.putfield 254, 3, [12, 16, 0], 0, 0), none, none, some (.aload_n 0, 1, [0], 0, 0), some (.iconst (-1), 1, [], (-1), 0), some (.putfield 35, 3, [12, 15, 0], 0, 0), none, none, some (.aload_n 0, 1, [0], 0, 0)],
  [some (.iconst 0, 1, [], 0, 0), some (.putfield 211, 3, [12, 12, 0], 0, 0), none, none, some (.aload_n 0, 1, [0], 0, 0), some (.iconst 0, 1, [], 0, 0), some (.putfield 269, 3, [12, 28, 0], 0, 0), none, none, some (.aload_n 0, 1, [0], 0, 0), some (.iconst 0, 1, [], 0, 0), some (.putfield 295, 3, [12, 29, 0], 0, 0), none, none, some (.aload_n 0, 1, [0], 0, 0), some (.iconst 0, 1, [], 0, 0), some (.putfield 272, 3, [12, 30, 0], 0, 0), none, none, some (.aload_n 0, 1, [0], 0, 0), some (.iconst 0, 1, [], 0, 0), some (.putfield 339, 3, [12, 31, 0], 0, 0), none, none, some (.iconst 0, 1, [], 0, 0), some (.istore_n 2, 1, [2], 0, 0), some (.iload_n 2, 1, [2], 0, 0), some (.bipush 36, 2, [], 36, 0), none, some (.if_icmp .ge 16, 3, [109], 0, 0), none, none],
  [some (.aload_n 0, 1, [0], 0, 0), some (.getfield 62, 3, [12, 25, 2, 4, 36, 14], 0, 0), none, none, some (.iload_n 2, 1, [2], 0, 0), some (.iconst 0, 1, [], 0, 0), some (.bastore, 1, [], 0, 0), some (.iinc 2 1, 3, [2], 1, 0), none, none, some (.goto (-16), 3, [90], 0, 0), none, none, some (.iconst 0, 1, [], 0, 0), some (.istore_n 2, 1, [2], 0, 0), some (.iload_n 2, 1, [2], 0, 0), some (.bipush 48, 2, [], 48, 0), none, some (.if_icmp .ge 23, 3, [137], 0, 0), none, none, some (.aload_n 0, 1, [0], 0, 0), some (.getfield 69, 3, [12, 27, 2, 4, 48, 16], 0, 0), none, none, some (.iload_n 2, 1, [2], 0, 0), some (.iconst 0, 1, [], 0, 0), some (.bastore, 1, [], 0, 0), some (.aload_n 0, 1, [0], 0, 0), some (.getfield 59, 3, [12, 24, 2, 1, 48, 13], 0, 0), none, none],
  [some (.iload_n 2, 1, [2], 0, 0), some (.iconst 0, 1, [], 0, 0), some (.iastore, 1, [], 0, 0), some (.iinc 2 1, 3, [2], 1, 0), none, none, some (.goto (-23), 3, [111], 0, 0), none, none, some (.aload_n 0, 1, [0], 0, 0), some (.invokevirtual 263, 3, [0, 183, 1, 3], 0, 0), none, none, some (.aload_n 0, 1, [0], 0, 0), some (.getfield 223, 3, [12, 10, 0], 0, 0), none, none, some (.ifCond .eq 7, 3, [152], 0, 0), none, none, some (.iconst 1, 1, [], 1, 0), some (.goto 4, 3, [153], 0, 0), none, none, some (.iconst 0, 1, [], 0, 0), some (.istore_n 2, 1, [2], 0, 0), some (.iload_n 2, 1, [2], 0, 0), some (.ifCond .eq 26, 3, [181], 0, 0), none, none, some (.aload_n 0, 1, [0], 0, 0), some (.invokevirtual 345, 3, [0, 202, 1, 0], 0, 0)],
  [none, none, some (.ifCond .eq 14, 3, [176], 0, 0), none, none, some (.aload_n 0, 1, [0], 0, 0), some (.getfield 223, 3, [12, 10, 0], 0, 0), none, none, some (.ifCond .eq 7, 3, [176], 0, 0), none, none, some (.iconst 1, 1, [], 1, 0), some (.goto 4, 3, [177], 0, 0), none, none, some (.iconst 0, 1, [], 0, 0), some (.istore_n 2, 1, [2], 0, 0), some (.goto (-24), 3, [154], 0, 0), none, none, some (.aload_n 0, 1, [0], 0, 0), some (.aload_n 0, 1, [0], 0, 0), some (.getfield 254, 3, [12, 16, 0], 0, 0), none, none, some (.putfield 31, 3, [12, 14, 0], 0, 0), none, none, some (.aload_n 0, 1, [0], 0, 0), some (.getfield 254, 3, [12, 16, 0], 0, 0), none],
  [none, some (.ifCond .le 10, 3, [203], 0, 0), none, none, some (.aload_n 0, 1, [0], 0, 0), some (.bipush 9, 2, [], 9, 0), none, some (.invokevirtual 342, 3, [0, 168, 2, 0], 0, 0), none, none, some (.ireturn, 1, [], 0, 0), some (.aload_n 0, 1, [0], 0, 0), some (.aload_n 0, 1, [0], 0, 0), some (.getfield 295, 3, [12, 29, 0], 0, 0), none, none, some (.putfield 348, 3, [12, 32, 0], 0, 0), none, none, some (.aload_n 0, 1, [0], 0, 0), some (.aload_n 0, 1, [0], 0, 0), some (.getfield 272, 3, [12, 30, 0], 0, 0), none, none, some (.putfield 351, 3, [12, 33, 0], 0, 0), none, none, some (.iconst 0, 1, [], 0, 0), some (.istore_n 3, 1, [3], 0, 0), some (.iload_n 3, 1, [3], 0, 0), some (.bipush 36, 2, [], 36, 0), none],
  [some (.if_icmp .ge 21, 3, [245], 0, 0), none, none, some (.aload_n 0, 1, [0], 0, 0), some (.getfield 84, 3, [12, 38, 2, 4, 36, 21], 0, 0), none, none, some (.iload_n 3, 1, [3], 0, 0), some (.aload_n 0, 1, [0], 0, 0), some (.getfield 62, 3, [12, 25, 2, 4, 36, 14], 0, 0), none, none, some (.iload_n 3, 1, [3], 0, 0), some (.baload, 1, [], 0, 0), some (.bastore, 1, [], 0, 0), some (.iinc 3 1, 3, [3], 1, 0), none, none, some (.goto (-21), 3, [221], 0, 0), none, none, some (.iconst 0, 1, [], 0, 0), some (.istore_n 3, 1, [3], 0, 0), some (.iload_n 3, 1, [3], 0, 0), some (.bipush 48, 2, [], 48, 0), none, some (.if_icmp .ge 21, 3, [271], 0, 0), none, none, some (.aload_n 0, 1, [0], 0, 0), some (.getfield 81, 3, [12, 37, 2, 1, 48, 20], 0, 0), none],
  [none, some (.iload_n 3, 1, [3], 0, 0), some (.aload_n 0, 1, [0], 0, 0), some (.getfield 59, 3, [12, 24, 2, 1, 48, 13], 0, 0), none, none, some (.iload_n 3, 1, [3], 0, 0), some (.iaload, 1, [], 0, 0), some (.iastore, 1, [], 0, 0), some (.iinc 3 1, 3, [3], 1, 0), none, none, some (.goto (-21), 3, [247], 0, 0), none, none, some (.iconst 0, 1, [], 0, 0), some (.istore_n 3, 1, [3], 0, 0), some (.iload_n 3, 1, [3], 0, 0), some (.bipush 6, 2, [], 6, 0), none, some (.if_icmp .ge 45, 3, [321], 0, 0), none, none, some (.aload_n 0, 1, [0], 0, 0), some (.getfield 72, 3, [12, 34, 2, 1, 6, 17], 0, 0), none, none, some (.iload_n 3, 1, [3], 0, 0), some (.aload_n 0, 1, [0], 0, 0), some (.getfield 50, 3, [12, 21, 2, 1, 6, 10], 0, 0), none, none],
  [some (.iload_n 3, 1, [3], 0, 0), some (.iaload, 1, [], 0, 0), some (.iastore, 1, [], 0, 0), some (.aload_n 0, 1, [0], 0, 0), some (.getfield 75, 3, [12, 35, 2, 1, 6, 18], 0, 0), none, none, some (.iload_n 3, 1, [3], 0, 0), some (.aload_n 0, 1, [0], 0, 0), some (.getfield 53, 3, [12, 22, 2, 1, 6, 11], 0, 0), none, none, some (.iload_n 3, 1, [3], 0, 0), some (.iaload, 1, [], 0, 0), some (.iastore, 1, [], 0, 0), some (.aload_n 0, 1, [0], 0, 0), some (.getfield 78, 3, [12, 36, 2, 1, 6, 19], 0, 0), none, none, some (.iload_n 3, 1, [3], 0, 0), some (.aload_n 0, 1, [0], 0, 0), some (.getfield 56, 3, [12, 23, 2, 1, 6, 12], 0, 0), none, none, some (.iload_n 3, 1, [3], 0, 0), some (.iaload, 1, [], 0, 0), some (.iastore, 1, [], 0, 0), some (.iinc 3 1, 3, [3], 1, 0), none, none, some (.goto (-45), 3, [273], 0, 0), none],
  [none, some (.aload_n 0, 1, [0], 0, 0), some (.iconst 0, 1, [], 0, 0), some (.putfield 354, 3, [12, 48, 0], 0, 0), none, none, some (.aload_n 0, 1, [0], 0, 0), some (.iconst 0, 1, [], 0, 0), some (.putfield 357, 3, [12, 49, 0], 0, 0), none, none, some (.aload_n 0, 1, [0], 0, 0), some (.iconst 0, 1, [], 0, 0), some (.putfield 360, 3, [12, 75, 0], 0, 0), none, none, some (.aload_n 0, 1, [0], 0, 0), some (.aload_n 0, 1, [0], 0, 0), some (.getfield 339, 3, [12, 31, 0], 0, 0), none, none, some (.invokevirtual 180, 3, [0, 169, 2, 0], 0, 0), none, none, some (.ireturn, 1, [], 0, 0)]]
def F_M_land_273 (N : Nat) (bk : (Int32 → Int32 → MH → Option (Int32 × MH)) × (Int32 → MH → Option (Int32 × MH)) × (Int32 → MH → Option (Int32 × MH)) × (Int32 → MH → Option (Int32 × MH)) × (Int32 → MH → Option (Int32 × MH)) × (Int32 → MH → Option (Int32 × MH)) × (Int32 → MH → Option (Int32 × MH))) (a3 : Int32) (h : MH) : Option (Int32 × MH) :=
  if 6 ≤ a3 then
  (let h29 : MH := sI h 68 48 0
  let h30 : MH := sI h29 68 49 0
  let h31 : MH := sI h30 68 75 0
  (f_M_gives N (gI h31 68 31) h31).bind (fun x32 =>
  some (x32.1, x32.2)))
  else
  (if inB a3 6 = true then
  (if inB a3 6 = true then
  (let h33 : MH := sI h 85 (iN a3) (gI h 78 (iN a3))
  if inB a3 6 = true then
  (if inB a3 6 = true then
  (let h34 : MH := sI h33 86 (iN a3) (gI h33 79 (iN a3))
  if inB a3 6 = true then
  (if inB a3 6 = true then
  (let h35 : MH := sI h34 87 (iN a3) (gI h34 80 (iN a3))
  let v36 : Int32 := a3 + 1
  (bk.2.2.2.2.2.2) v36 h35)
  else none)
  else none)
  else none)
  else none)
  else none)
  else none)
def F_M_land_247 (N : Nat) (bk : (Int32 → Int32 → MH → Option (Int32 × MH)) × (Int32 → MH → Option (Int32 × MH)) × (Int32 → MH → Option (Int32 × MH)) × (Int32 → MH → Option (Int32 × MH)) × (Int32 → MH → Option (Int32 × MH)) × (Int32 → MH → Option (Int32 × MH)) × (Int32 → MH → Option (Int32 × MH))) (a3 : Int32) (h : MH) : Option (Int32 × MH) :=
  if 48 ≤ a3 then
  (F_M_land_273 N bk 0 h)
  else
  (if inB a3 48 = true then
  (if inB a3 48 = true then
  (let h27 : MH := sI h 88 (iN a3) (gI h 81 (iN a3))
  let v28 : Int32 := a3 + 1
  (bk.2.2.2.2.2.1) v28 h27)
  else none)
  else none)
def F_M_land_221 (N : Nat) (bk : (Int32 → Int32 → MH → Option (Int32 × MH)) × (Int32 → MH → Option (Int32 × MH)) × (Int32 → MH → Option (Int32 × MH)) × (Int32 → MH → Option (Int32 × MH)) × (Int32 → MH → Option (Int32 × MH)) × (Int32 → MH → Option (Int32 × MH)) × (Int32 → MH → Option (Int32 × MH))) (a3 : Int32) (h : MH) : Option (Int32 × MH) :=
  if 36 ≤ a3 then
  (F_M_land_247 N bk 0 h)
  else
  (if inB a3 36 = true then
  (if inB a3 36 = true then
  (let h25 : MH := sI h 89 (iN a3) ((gI h 82 (iN a3)) &&& 1)
  let v26 : Int32 := a3 + 1
  (bk.2.2.2.2.1) v26 h25)
  else none)
  else none)
def F_M_land_154 (N : Nat) (bk : (Int32 → Int32 → MH → Option (Int32 × MH)) × (Int32 → MH → Option (Int32 × MH)) × (Int32 → MH → Option (Int32 × MH)) × (Int32 → MH → Option (Int32 × MH)) × (Int32 → MH → Option (Int32 × MH)) × (Int32 → MH → Option (Int32 × MH)) × (Int32 → MH → Option (Int32 × MH))) (a2 : Int32) (h : MH) : Option (Int32 × MH) :=
  if a2 = 0 then
  (let h20 : MH := sI h 68 14 (gI h 68 16)
  if (gI h20 68 16) ≤ 0 then
  (let h21 : MH := sI h20 68 32 (gI h20 68 29)
  let h22 : MH := sI h21 68 33 (gI h21 68 30)
  F_M_land_221 N bk 0 h22)
  else
  ((f_M_refuse N 9 h20).bind (fun x23 =>
  some (x23.1, x23.2))))
  else
  ((f_M_part N h).bind (fun x24 =>
  if x24.1 = 0 then
  ((bk.2.2.2.1) 0 x24.2)
  else
  (if (gI x24.2 68 10) = 0 then
  ((bk.2.2.2.1) 0 x24.2)
  else
  ((bk.2.2.2.1) 1 x24.2))))
def F_M_land_111 (N : Nat) (bk : (Int32 → Int32 → MH → Option (Int32 × MH)) × (Int32 → MH → Option (Int32 × MH)) × (Int32 → MH → Option (Int32 × MH)) × (Int32 → MH → Option (Int32 × MH)) × (Int32 → MH → Option (Int32 × MH)) × (Int32 → MH → Option (Int32 × MH)) × (Int32 → MH → Option (Int32 × MH))) (a2 : Int32) (h : MH) : Option (Int32 × MH) :=
  if 48 ≤ a2 then
  ((f_M_next N h).bind (fun x16 =>
  if (gI x16 68 10) = 0 then
  (F_M_land_154 N bk 0 x16)
  else
  (F_M_land_154 N bk 1 x16)))
  else
  (if inB a2 48 = true then
  (let h17 : MH := sI h 84 (iN a2) ((0 : Int32) &&& 1)
  if inB a2 48 = true then
  (let h18 : MH := sI h17 81 (iN a2) 0
  let v19 : Int32 := a2 + 1
  (bk.2.2.1) v19 h18)
  else none)
  else none)
def F_M_land_90 (N : Nat) (bk : (Int32 → Int32 → MH → Option (Int32 × MH)) × (Int32 → MH → Option (Int32 × MH)) × (Int32 → MH → Option (Int32 × MH)) × (Int32 → MH → Option (Int32 × MH)) × (Int32 → MH → Option (Int32 × MH)) × (Int32 → MH → Option (Int32 × MH)) × (Int32 → MH → Option (Int32 × MH))) (a2 : Int32) (h : MH) : Option (Int32 × MH) :=
  if 36 ≤ a2 then
  (F_M_land_111 N bk 0 h)
  else
  (if inB a2 36 = true then
  (let h14 : MH := sI h 82 (iN a2) ((0 : Int32) &&& 1)
  let v15 : Int32 := a2 + 1
  (bk.2.1) v15 h14)
  else none)
def F_M_land_25 (N : Nat) (bk : (Int32 → Int32 → MH → Option (Int32 × MH)) × (Int32 → MH → Option (Int32 × MH)) × (Int32 → MH → Option (Int32 × MH)) × (Int32 → MH → Option (Int32 × MH)) × (Int32 → MH → Option (Int32 × MH)) × (Int32 → MH → Option (Int32 × MH)) × (Int32 → MH → Option (Int32 × MH))) (a1 : Int32) (a2 : Int32) (h : MH) : Option (Int32 × MH) :=
  if a1 ≤ a2 then
  (let h4 : MH := sI h 68 8 0
  let h5 : MH := sI h4 68 16 0
  let h6 : MH := sI h5 68 15 ((-1))
  let h7 : MH := sI h6 68 12 0
  let h8 : MH := sI h7 68 28 0
  let h9 : MH := sI h8 68 29 0
  let h10 : MH := sI h9 68 30 0
  let h11 : MH := sI h10 68 31 0
  F_M_land_90 N bk 0 h11)
  else
  (if inB a2 600 = true then
  (if inB a2 600 = true then
  (let h12 : MH := sI h 73 (iN a2) (gI h 72 (iN a2)).toInt8.toInt32
  let v13 : Int32 := a2 + 1
  (bk.1) a1 v13 h12)
  else none)
  else none)
def F_M_land_0 (N : Nat) (bk : (Int32 → Int32 → MH → Option (Int32 × MH)) × (Int32 → MH → Option (Int32 × MH)) × (Int32 → MH → Option (Int32 × MH)) × (Int32 → MH → Option (Int32 × MH)) × (Int32 → MH → Option (Int32 × MH)) × (Int32 → MH → Option (Int32 × MH)) × (Int32 → MH → Option (Int32 × MH))) (a1 : Int32) (h : MH) : Option (Int32 × MH) :=
  if a1 < 0 then
  ((f_M_refuse N 1 h).bind (fun x1 =>
  some (x1.1, x1.2)))
  else
  (if a1 ≤ (gI h 68 8) then
  (let h2 : MH := sI h 68 9 a1
  F_M_land_25 N bk a1 0 h2)
  else
  ((f_M_refuse N 1 h).bind (fun x3 =>
  some (x3.1, x3.2))))
def L_M_land (N : Nat) : Nat → ((Int32 → Int32 → MH → Option (Int32 × MH)) × (Int32 → MH → Option (Int32 × MH)) × (Int32 → MH → Option (Int32 × MH)) × (Int32 → MH → Option (Int32 × MH)) × (Int32 → MH → Option (Int32 × MH)) × (Int32 → MH → Option (Int32 × MH)) × (Int32 → MH → Option (Int32 × MH)))
  | 0 => (fun _ _ _ => none, fun _ _ => none, fun _ _ => none, fun _ _ => none, fun _ _ => none, fun _ _ => none, fun _ _ => none)
  | n + 1 => (F_M_land_25 N (L_M_land N n), F_M_land_90 N (L_M_land N n), F_M_land_111 N (L_M_land N n), F_M_land_154 N (L_M_land N n), F_M_land_221 N (L_M_land N n), F_M_land_247 N (L_M_land N n), F_M_land_273 N (L_M_land N n))
def f_M_land (N : Nat) (a1 : Int32) (h : MH) : Option (Int32 × MH) := F_M_land_0 N (L_M_land N N) a1 h
def C_M_land (N : Nat) : MC := (KDL, false, (fun _ => 0), jsB, (fun j => match Nat.beq j 168 with
    | true => w_M_refuse (f_M_refuse N)
    | false => match Nat.beq j 169 with
    | true => w_M_gives (f_M_gives N)
    | false => match Nat.beq j 202 with
    | true => w_M_part (f_M_part N)
    | false => fun _ _ => none), (fun _ _ _ => none), (fun _ _ _ => none), (fun j => match Nat.beq j 183 with
    | true => w_M_next (f_M_next N)
    | false => fun _ _ => none))
def D_M_land (N : Nat) (n pc : Nat) (lv : ML) (st : List MV) (h : MH) : Option (Int32 × MH) :=
  match Nat.beq pc 0 with
  | true => (match lk lv 0, lk lv 1, st with
    | some (.inr (.inr (0, 12, 68))), some (.inl a1), [] => F_M_land_0 N (L_M_land N n) a1 h
    | _, _, _ => none)
  | false => match Nat.beq pc 25 with
  | true => (match lk lv 0, lk lv 1, lk lv 2, st with
    | some (.inr (.inr (0, 12, 68))), some (.inl a1), some (.inl a2), [] => F_M_land_25 N (L_M_land N n) a1 a2 h
    | _, _, _, _ => none)
  | false => match Nat.beq pc 90 with
  | true => (match lk lv 0, lk lv 2, st with
    | some (.inr (.inr (0, 12, 68))), some (.inl a2), [] => F_M_land_90 N (L_M_land N n) a2 h
    | _, _, _ => none)
  | false => match Nat.beq pc 111 with
  | true => (match lk lv 0, lk lv 2, st with
    | some (.inr (.inr (0, 12, 68))), some (.inl a2), [] => F_M_land_111 N (L_M_land N n) a2 h
    | _, _, _ => none)
  | false => match Nat.beq pc 154 with
  | true => (match lk lv 0, lk lv 2, st with
    | some (.inr (.inr (0, 12, 68))), some (.inl a2), [] => F_M_land_154 N (L_M_land N n) a2 h
    | _, _, _ => none)
  | false => match Nat.beq pc 221 with
  | true => (match lk lv 0, lk lv 3, st with
    | some (.inr (.inr (0, 12, 68))), some (.inl a3), [] => F_M_land_221 N (L_M_land N n) a3 h
    | _, _, _ => none)
  | false => match Nat.beq pc 247 with
  | true => (match lk lv 0, lk lv 3, st with
    | some (.inr (.inr (0, 12, 68))), some (.inl a3), [] => F_M_land_247 N (L_M_land N n) a3 h
    | _, _, _ => none)
  | false => match Nat.beq pc 273 with
  | true => (match lk lv 0, lk lv 3, st with
    | some (.inr (.inr (0, 12, 68))), some (.inl a3), [] => F_M_land_273 N (L_M_land N n) a3 h
    | _, _, _ => none)
  | false => none
def B_M_land (N : Nat) (n pc : Nat) (lv : ML) (st : List MV) (h : MH) : Option (Int32 × MH) :=
  match Nat.beq pc 25 with
  | true => (match lk lv 0, lk lv 1, lk lv 2, st with
    | some (.inr (.inr (0, 12, 68))), some (.inl a1), some (.inl a2), [] => ((L_M_land N n).1) a1 a2 h
    | _, _, _, _ => none)
  | false => match Nat.beq pc 90 with
  | true => (match lk lv 0, lk lv 2, st with
    | some (.inr (.inr (0, 12, 68))), some (.inl a2), [] => ((L_M_land N n).2.1) a2 h
    | _, _, _ => none)
  | false => match Nat.beq pc 111 with
  | true => (match lk lv 0, lk lv 2, st with
    | some (.inr (.inr (0, 12, 68))), some (.inl a2), [] => ((L_M_land N n).2.2.1) a2 h
    | _, _, _ => none)
  | false => match Nat.beq pc 154 with
  | true => (match lk lv 0, lk lv 2, st with
    | some (.inr (.inr (0, 12, 68))), some (.inl a2), [] => ((L_M_land N n).2.2.2.1) a2 h
    | _, _, _ => none)
  | false => match Nat.beq pc 221 with
  | true => (match lk lv 0, lk lv 3, st with
    | some (.inr (.inr (0, 12, 68))), some (.inl a3), [] => ((L_M_land N n).2.2.2.2.1) a3 h
    | _, _, _ => none)
  | false => match Nat.beq pc 247 with
  | true => (match lk lv 0, lk lv 3, st with
    | some (.inr (.inr (0, 12, 68))), some (.inl a3), [] => ((L_M_land N n).2.2.2.2.2.1) a3 h
    | _, _, _ => none)
  | false => match Nat.beq pc 273 with
  | true => (match lk lv 0, lk lv 3, st with
    | some (.inr (.inr (0, 12, 68))), some (.inl a3), [] => ((L_M_land N n).2.2.2.2.2.2) a3 h
    | _, _, _ => none)
  | false => none
set_option maxRecDepth 1000000 in
theorem E_M_land_0 (N : Nat) (n : Nat) (a1 : Int32) (h : MH) : seg (C_M_land N) 4 0 rI T_M_land [0, 25, 90, 111, 154, 221, 247, 273] (fun q lv st h => match Nat.ble 1 q with
    | true => D_M_land N n q lv st h
    | false => B_M_land N n q lv st h) 400 true 0 [(0, .inr (.inr (0, 12, 68))), (1, .inl a1)] [] h = F_M_land_0 N (L_M_land N n) a1 h := (rfl)
set_option maxRecDepth 1000000 in
theorem E_M_land_25 (N : Nat) (n : Nat) (a1 : Int32) (a2 : Int32) (h : MH) : seg (C_M_land N) 4 0 rI T_M_land [0, 25, 90, 111, 154, 221, 247, 273] (fun q lv st h => match Nat.ble 26 q with
    | true => D_M_land N n q lv st h
    | false => B_M_land N n q lv st h) 400 true 25 [(0, .inr (.inr (0, 12, 68))), (1, .inl a1), (2, .inl a2)] [] h = F_M_land_25 N (L_M_land N n) a1 a2 h := (rfl)
set_option maxRecDepth 1000000 in
theorem E_M_land_90 (N : Nat) (n : Nat) (a2 : Int32) (h : MH) : seg (C_M_land N) 4 0 rI T_M_land [0, 25, 90, 111, 154, 221, 247, 273] (fun q lv st h => match Nat.ble 91 q with
    | true => D_M_land N n q lv st h
    | false => B_M_land N n q lv st h) 400 true 90 [(0, .inr (.inr (0, 12, 68))), (2, .inl a2)] [] h = F_M_land_90 N (L_M_land N n) a2 h := (rfl)
set_option maxRecDepth 1000000 in
theorem E_M_land_111 (N : Nat) (n : Nat) (a2 : Int32) (h : MH) : seg (C_M_land N) 4 0 rI T_M_land [0, 25, 90, 111, 154, 221, 247, 273] (fun q lv st h => match Nat.ble 112 q with
    | true => D_M_land N n q lv st h
    | false => B_M_land N n q lv st h) 400 true 111 [(0, .inr (.inr (0, 12, 68))), (2, .inl a2)] [] h = F_M_land_111 N (L_M_land N n) a2 h := (rfl)
set_option maxRecDepth 1000000 in
theorem E_M_land_154 (N : Nat) (n : Nat) (a2 : Int32) (h : MH) : seg (C_M_land N) 4 0 rI T_M_land [0, 25, 90, 111, 154, 221, 247, 273] (fun q lv st h => match Nat.ble 155 q with
    | true => D_M_land N n q lv st h
    | false => B_M_land N n q lv st h) 400 true 154 [(0, .inr (.inr (0, 12, 68))), (2, .inl a2)] [] h = F_M_land_154 N (L_M_land N n) a2 h := (rfl)
set_option maxRecDepth 1000000 in
theorem E_M_land_221 (N : Nat) (n : Nat) (a3 : Int32) (h : MH) : seg (C_M_land N) 4 0 rI T_M_land [0, 25, 90, 111, 154, 221, 247, 273] (fun q lv st h => match Nat.ble 222 q with
    | true => D_M_land N n q lv st h
    | false => B_M_land N n q lv st h) 400 true 221 [(0, .inr (.inr (0, 12, 68))), (3, .inl a3)] [] h = F_M_land_221 N (L_M_land N n) a3 h := (rfl)
set_option maxRecDepth 1000000 in
theorem E_M_land_247 (N : Nat) (n : Nat) (a3 : Int32) (h : MH) : seg (C_M_land N) 4 0 rI T_M_land [0, 25, 90, 111, 154, 221, 247, 273] (fun q lv st h => match Nat.ble 248 q with
    | true => D_M_land N n q lv st h
    | false => B_M_land N n q lv st h) 400 true 247 [(0, .inr (.inr (0, 12, 68))), (3, .inl a3)] [] h = F_M_land_247 N (L_M_land N n) a3 h := (rfl)
set_option maxRecDepth 1000000 in
theorem E_M_land_273 (N : Nat) (n : Nat) (a3 : Int32) (h : MH) : seg (C_M_land N) 4 0 rI T_M_land [0, 25, 90, 111, 154, 221, 247, 273] (fun q lv st h => match Nat.ble 274 q with
    | true => D_M_land N n q lv st h
    | false => B_M_land N n q lv st h) 400 true 273 [(0, .inr (.inr (0, 12, 68))), (3, .inl a3)] [] h = F_M_land_273 N (L_M_land N n) a3 h := (rfl)
set_option maxRecDepth 1000000 in
theorem chk_M_land : chkT 12 false prog_14_method_41_code T_M_land = true := by decide +kernel
theorem mc_M_land : mC 203 = prog_14_method_41_code := by rfl
theorem mx_M_land : mL 203 = 4 ∧ mR 203 = some .int ∧ mK 203 = 1 ∧ (mN 203).cls = cN 12 := by decide +kernel
theorem hD_M_land (N : Nat) {r : Int32 × MH} : ∀ n pc lv st h, D_M_land N n pc lv st h = some r → ∃ lv', (∀ q ∈ lv', q ∈ lv) ∧ seg (C_M_land N) 4 0 rI T_M_land [0, 25, 90, 111, 154, 221, 247, 273] (fun q lv st h => match Nat.ble (pc + 1) q with
    | true => D_M_land N n q lv st h
    | false => B_M_land N n q lv st h) 400 true pc lv' st h = some r := by
  intro n pc lv st h hf
  unfold D_M_land at hf
  split at hf
  · rename_i hb
    have hb := Nat.eq_of_beq_eq_true hb
    subst hb
    split at hf
    · rename_i y0 e0 e1
      exact ⟨_, (sub_cons e0 (sub_cons e1 sub_nil)), (E_M_land_0 N n _ h).trans hf⟩
    · cases hf
  · skip
    split at hf
    · rename_i hb
      have hb := Nat.eq_of_beq_eq_true hb
      subst hb
      split at hf
      · rename_i y0 y1 e0 e1 e2
        exact ⟨_, (sub_cons e0 (sub_cons e1 (sub_cons e2 sub_nil))), (E_M_land_25 N n _ _ h).trans hf⟩
      · cases hf
    · skip
      split at hf
      · rename_i hb
        have hb := Nat.eq_of_beq_eq_true hb
        subst hb
        split at hf
        · rename_i y0 e0 e1
          exact ⟨_, (sub_cons e0 (sub_cons e1 sub_nil)), (E_M_land_90 N n _ h).trans hf⟩
        · cases hf
      · skip
        split at hf
        · rename_i hb
          have hb := Nat.eq_of_beq_eq_true hb
          subst hb
          split at hf
          · rename_i y0 e0 e1
            exact ⟨_, (sub_cons e0 (sub_cons e1 sub_nil)), (E_M_land_111 N n _ h).trans hf⟩
          · cases hf
        · skip
          split at hf
          · rename_i hb
            have hb := Nat.eq_of_beq_eq_true hb
            subst hb
            split at hf
            · rename_i y0 e0 e1
              exact ⟨_, (sub_cons e0 (sub_cons e1 sub_nil)), (E_M_land_154 N n _ h).trans hf⟩
            · cases hf
          · skip
            split at hf
            · rename_i hb
              have hb := Nat.eq_of_beq_eq_true hb
              subst hb
              split at hf
              · rename_i y0 e0 e1
                exact ⟨_, (sub_cons e0 (sub_cons e1 sub_nil)), (E_M_land_221 N n _ h).trans hf⟩
              · cases hf
            · skip
              split at hf
              · rename_i hb
                have hb := Nat.eq_of_beq_eq_true hb
                subst hb
                split at hf
                · rename_i y0 e0 e1
                  exact ⟨_, (sub_cons e0 (sub_cons e1 sub_nil)), (E_M_land_247 N n _ h).trans hf⟩
                · cases hf
              · skip
                split at hf
                · rename_i hb
                  have hb := Nat.eq_of_beq_eq_true hb
                  subst hb
                  split at hf
                  · rename_i y0 e0 e1
                    exact ⟨_, (sub_cons e0 (sub_cons e1 sub_nil)), (E_M_land_273 N n _ h).trans hf⟩
                  · cases hf
                · skip
                  cases hf
theorem hM_M_land (N : Nat) {r : Int32 × MH} : ∀ n pc lv st h, D_M_land N n pc lv st h = some r → pc < 345 := by
  intro n pc lv st h hf
  unfold D_M_land at hf
  split at hf
  · rename_i hb
    rw [Nat.eq_of_beq_eq_true hb]
    decide
  · skip
    split at hf
    · rename_i hb
      rw [Nat.eq_of_beq_eq_true hb]
      decide
    · skip
      split at hf
      · rename_i hb
        rw [Nat.eq_of_beq_eq_true hb]
        decide
      · skip
        split at hf
        · rename_i hb
          rw [Nat.eq_of_beq_eq_true hb]
          decide
        · skip
          split at hf
          · rename_i hb
            rw [Nat.eq_of_beq_eq_true hb]
            decide
          · skip
            split at hf
            · rename_i hb
              rw [Nat.eq_of_beq_eq_true hb]
              decide
            · skip
              split at hf
              · rename_i hb
                rw [Nat.eq_of_beq_eq_true hb]
                decide
              · skip
                split at hf
                · rename_i hb
                  rw [Nat.eq_of_beq_eq_true hb]
                  decide
                · skip
                  cases hf
theorem hB_M_land (N : Nat) {r : Int32 × MH} : ∀ n pc lv st h, B_M_land N n pc lv st h = some r → ∃ k, n = k + 1 ∧ D_M_land N k pc lv st h = some r := by
  intro n pc lv st h hf
  unfold B_M_land at hf
  split at hf
  · rename_i hb
    have hb := Nat.eq_of_beq_eq_true hb
    subst hb
    cases n with
    | zero =>
      split at hf
      · cases hf
      · cases hf
    | succ k =>
      refine ⟨k, rfl, ?_⟩
      exact hf
  · skip
    split at hf
    · rename_i hb
      have hb := Nat.eq_of_beq_eq_true hb
      subst hb
      cases n with
      | zero =>
        split at hf
        · cases hf
        · cases hf
      | succ k =>
        refine ⟨k, rfl, ?_⟩
        exact hf
    · skip
      split at hf
      · rename_i hb
        have hb := Nat.eq_of_beq_eq_true hb
        subst hb
        cases n with
        | zero =>
          split at hf
          · cases hf
          · cases hf
        | succ k =>
          refine ⟨k, rfl, ?_⟩
          exact hf
      · skip
        split at hf
        · rename_i hb
          have hb := Nat.eq_of_beq_eq_true hb
          subst hb
          cases n with
          | zero =>
            split at hf
            · cases hf
            · cases hf
          | succ k =>
            refine ⟨k, rfl, ?_⟩
            exact hf
        · skip
          split at hf
          · rename_i hb
            have hb := Nat.eq_of_beq_eq_true hb
            subst hb
            cases n with
            | zero =>
              split at hf
              · cases hf
              · cases hf
            | succ k =>
              refine ⟨k, rfl, ?_⟩
              exact hf
          · skip
            split at hf
            · rename_i hb
              have hb := Nat.eq_of_beq_eq_true hb
              subst hb
              cases n with
              | zero =>
                split at hf
                · cases hf
                · cases hf
              | succ k =>
                refine ⟨k, rfl, ?_⟩
                exact hf
            · skip
              split at hf
              · rename_i hb
                have hb := Nat.eq_of_beq_eq_true hb
                subst hb
                cases n with
                | zero =>
                  split at hf
                  · cases hf
                  · cases hf
                | succ k =>
                  refine ⟨k, rfl, ?_⟩
                  exact hf
              · skip
                cases hf
theorem s_M_land {l : Launch} {E : EV} {N : Nat} {as : List MV} {h : MH} {r : Int32 × MH} (hf : w_M_land (f_M_land N) as h = some r) : SndM l E false 9 203 as h (some (.inl r.1)) r.2 := by
  unfold w_M_land at hf
  split at hf
  · obtain ⟨m1, m2, m3, m4⟩ := mx_M_land
    refine snd_of (C := C_M_land N) (own := 12) (rz := 0) (lim := 115) rI_eq m2 m4 pl_203 (TB_in _ cw_203 rfl) ⟨(fun _ => ⟨_, _, _, _, _, _, rfl, rfl, by rw [m4]; rfl⟩), (fun z => by rw [m3] at z; cases z)⟩ (fun z => by cases z) KDL_take rfl rfl (fun z => by cases z) (fun z => by cases z) (fun _ => rfl) (by rw [m1]; exact Nat.le_of_ble_eq_true rfl)
      (fun j as h x z => by
      dsimp only [C_M_land] at z
      cases hb : Nat.beq j 168 with
      | true =>
        have hb := Nat.eq_of_beq_eq_true hb
        subst hb
        exact ⟨0, by decide, (fun z => by cases z), s_M_refuse z⟩
      | false =>
        rw [hb] at z
        dsimp only at z
        cases hb : Nat.beq j 169 with
        | true =>
          have hb := Nat.eq_of_beq_eq_true hb
          subst hb
          exact ⟨0, by decide, (fun z => by cases z), s_M_gives z⟩
        | false =>
          rw [hb] at z
          dsimp only at z
          cases hb : Nat.beq j 202 with
          | true =>
            have hb := Nat.eq_of_beq_eq_true hb
            subst hb
            exact ⟨8, by decide, (fun z => by cases z), s_M_part z⟩
          | false =>
            rw [hb] at z
            dsimp only at z
            cases z)
      (fun _ _ _ _ z => by cases z)
      (fun _ _ _ _ z => by cases z)
      (fun j as h x z => by
      dsimp only [C_M_land] at z
      cases hb : Nat.beq j 183 with
      | true =>
        have hb := Nat.eq_of_beq_eq_true hb
        subst hb
        exact ⟨1, by decide, (fun z => by cases z), s_M_next z⟩
      | false =>
        rw [hb] at z
        dsimp only at z
        cases z)
      (fun p e R s m args below meth c Q n0 F hret => ?_)
    rw [m1] at F hret ⊢
    rw [mc_M_land] at F hret
    exact cuts_s (K := 400) (M := 345) (D := D_M_land N) (B := B_M_land N) F hret (chkT_ok chk_M_land) (hM_M_land N) (hB_M_land N) (hD_M_land N) N 0 _ _ _ hf
  · cases hf
def T_M_fault : List (List (Option RW)) := [
  [some (.iload_n 1, 1, [1], 0, 0), some (.ifCond .ne 10, 3, [11], 0, 0), none, none, some (.aload_n 0, 1, [0], 0, 0), some (.getfield 31, 3, [12, 14, 0], 0, 0), none, none, some (.goto 16, 3, [24], 0, 0), none, none, some (.iload_n 1, 1, [1], 0, 0), some (.iconst 1, 1, [], 1, 0), some (.if_icmp .ne 10, 3, [23], 0, 0), none, none, some (.aload_n 0, 1, [0], 0, 0), some (.getfield 35, 3, [12, 15, 0], 0, 0), none, none, some (.goto 4, 3, [24], 0, 0), none, none, some (.iconst (-1), 1, [], (-1), 0), some (.ireturn, 1, [], 0, 0)]]
def f_M_fault (N : Nat) (a1 : Int32) (h : MH) : Option (Int32 × MH) :=
  if a1 = 0 then
  (some (gI h 68 14, h))
  else
  (if a1 = 1 then
  (some (gI h 68 15, h))
  else
  (some ((-1), h)))
def C_M_fault (N : Nat) : MC := (KDL, false, (fun _ => 0), jsB, (fun _ _ _ => none), (fun _ _ _ => none), (fun _ _ _ => none), (fun _ _ _ => none))
def D_M_fault (N : Nat) (n pc : Nat) (lv : ML) (st : List MV) (h : MH) : Option (Int32 × MH) :=
  match Nat.beq pc 0 with
  | true => (match lk lv 0, lk lv 1, st with
    | some (.inr (.inr (0, 12, 68))), some (.inl a1), [] => f_M_fault N a1 h
    | _, _, _ => none)
  | false => none
set_option maxRecDepth 1000000 in
theorem E_M_fault_0 (N : Nat) (n : Nat) (a1 : Int32) (h : MH) : seg (C_M_fault N) 2 0 rI T_M_fault [0] (fun q lv st h => match Nat.ble 1 q with
    | true => D_M_fault N n q lv st h
    | false => none) 400 true 0 [(0, .inr (.inr (0, 12, 68))), (1, .inl a1)] [] h = f_M_fault N a1 h := (rfl)
set_option maxRecDepth 1000000 in
theorem chk_M_fault : chkT 12 false prog_14_method_42_code T_M_fault = true := by decide +kernel
theorem mc_M_fault : mC 204 = prog_14_method_42_code := by rfl
theorem mx_M_fault : mL 204 = 2 ∧ mR 204 = some .int ∧ mK 204 = 1 ∧ (mN 204).cls = cN 12 := by decide +kernel
theorem hD_M_fault (N : Nat) {r : Int32 × MH} : ∀ n pc lv st h, D_M_fault N n pc lv st h = some r → ∃ lv', (∀ q ∈ lv', q ∈ lv) ∧ seg (C_M_fault N) 2 0 rI T_M_fault [0] (fun q lv st h => match Nat.ble (pc + 1) q with
    | true => D_M_fault N n q lv st h
    | false => none) 400 true pc lv' st h = some r := by
  intro n pc lv st h hf
  unfold D_M_fault at hf
  split at hf
  · rename_i hb
    have hb := Nat.eq_of_beq_eq_true hb
    subst hb
    split at hf
    · rename_i y0 e0 e1
      exact ⟨_, (sub_cons e0 (sub_cons e1 sub_nil)), (E_M_fault_0 N n _ h).trans hf⟩
    · cases hf
  · skip
    cases hf
theorem hM_M_fault (N : Nat) {r : Int32 × MH} : ∀ n pc lv st h, D_M_fault N n pc lv st h = some r → pc < 25 := by
  intro n pc lv st h hf
  unfold D_M_fault at hf
  split at hf
  · rename_i hb
    rw [Nat.eq_of_beq_eq_true hb]
    decide
  · skip
    cases hf
theorem s_M_fault {l : Launch} {E : EV} {N : Nat} {as : List MV} {h : MH} {r : Int32 × MH} (hf : w_M_fault (f_M_fault N) as h = some r) : SndM l E false 0 204 as h (some (.inl r.1)) r.2 := by
  unfold w_M_fault at hf
  split at hf
  · obtain ⟨m1, m2, m3, m4⟩ := mx_M_fault
    refine snd_of (C := C_M_fault N) (own := 12) (rz := 0) (lim := 115) rI_eq m2 m4 pl_204 (TB_in _ cw_204 rfl) ⟨(fun _ => ⟨_, _, _, _, _, _, rfl, rfl, by rw [m4]; rfl⟩), (fun z => by rw [m3] at z; cases z)⟩ (fun z => by cases z) KDL_take rfl rfl (fun z => by cases z) (fun z => by cases z) (fun _ => rfl) (by rw [m1]; exact Nat.le_of_ble_eq_true rfl)
      (fun _ _ _ _ z => by cases z)
      (fun _ _ _ _ z => by cases z)
      (fun _ _ _ _ z => by cases z)
      (fun _ _ _ _ z => by cases z)
      (fun p e R s m args below meth c Q n0 F hret => ?_)
    rw [m1] at F hret ⊢
    rw [mc_M_fault] at F hret
    exact cuts_s (K := 400) (M := 25) (D := D_M_fault N) (B := fun _ _ _ _ _ => none) F hret (chkT_ok chk_M_fault) (hM_M_fault N) (fun _ _ _ _ _ z => by cases z) (hD_M_fault N) N 0 _ _ _ hf
  · cases hf
def T_M_isMark : List (List (Option RW)) := [
  [some (.iload_n 1, 1, [1], 0, 0), some (.ifCond .lt 15, 3, [16], 0, 0), none, none, some (.iload_n 1, 1, [1], 0, 0), some (.aload_n 0, 1, [0], 0, 0), some (.getfield 351, 3, [12, 33, 0], 0, 0), none, none, some (.if_icmp .ge 7, 3, [16], 0, 0), none, none, some (.iconst 1, 1, [], 1, 0), some (.goto 4, 3, [17], 0, 0), none, none, some (.iconst 0, 1, [], 0, 0), some (.ireturn, 1, [], 0, 0)]]
def f_M_isMark (N : Nat) (a1 : Int32) (h : MH) : Option (Int32 × MH) :=
  if a1 < 0 then
  (some (0, h))
  else
  (if (gI h 68 33) ≤ a1 then
  (some (0, h))
  else
  (some (1, h)))
def C_M_isMark (N : Nat) : MC := (KDL, false, (fun _ => 0), jsB, (fun _ _ _ => none), (fun _ _ _ => none), (fun _ _ _ => none), (fun _ _ _ => none))
def D_M_isMark (N : Nat) (n pc : Nat) (lv : ML) (st : List MV) (h : MH) : Option (Int32 × MH) :=
  match Nat.beq pc 0 with
  | true => (match lk lv 0, lk lv 1, st with
    | some (.inr (.inr (0, 12, 68))), some (.inl a1), [] => f_M_isMark N a1 h
    | _, _, _ => none)
  | false => none
set_option maxRecDepth 1000000 in
theorem E_M_isMark_0 (N : Nat) (n : Nat) (a1 : Int32) (h : MH) : seg (C_M_isMark N) 2 1 rI T_M_isMark [0] (fun q lv st h => match Nat.ble 1 q with
    | true => D_M_isMark N n q lv st h
    | false => none) 400 true 0 [(0, .inr (.inr (0, 12, 68))), (1, .inl a1)] [] h = f_M_isMark N a1 h := (rfl)
set_option maxRecDepth 1000000 in
theorem chk_M_isMark : chkT 12 false prog_14_method_43_code T_M_isMark = true := by decide +kernel
theorem mc_M_isMark : mC 205 = prog_14_method_43_code := by rfl
theorem mx_M_isMark : mL 205 = 2 ∧ mR 205 = some .boolean ∧ mK 205 = 1 ∧ (mN 205).cls = cN 12 := by decide +kernel
theorem hD_M_isMark (N : Nat) {r : Int32 × MH} : ∀ n pc lv st h, D_M_isMark N n pc lv st h = some r → ∃ lv', (∀ q ∈ lv', q ∈ lv) ∧ seg (C_M_isMark N) 2 1 rI T_M_isMark [0] (fun q lv st h => match Nat.ble (pc + 1) q with
    | true => D_M_isMark N n q lv st h
    | false => none) 400 true pc lv' st h = some r := by
  intro n pc lv st h hf
  unfold D_M_isMark at hf
  split at hf
  · rename_i hb
    have hb := Nat.eq_of_beq_eq_true hb
    subst hb
    split at hf
    · rename_i y0 e0 e1
      exact ⟨_, (sub_cons e0 (sub_cons e1 sub_nil)), (E_M_isMark_0 N n _ h).trans hf⟩
    · cases hf
  · skip
    cases hf
theorem hM_M_isMark (N : Nat) {r : Int32 × MH} : ∀ n pc lv st h, D_M_isMark N n pc lv st h = some r → pc < 18 := by
  intro n pc lv st h hf
  unfold D_M_isMark at hf
  split at hf
  · rename_i hb
    rw [Nat.eq_of_beq_eq_true hb]
    decide
  · skip
    cases hf
theorem s_M_isMark {l : Launch} {E : EV} {N : Nat} {as : List MV} {h : MH} {r : Int32 × MH} (hf : w_M_isMark (f_M_isMark N) as h = some r) : SndM l E false 0 205 as h (some (.inl r.1)) r.2 := by
  unfold w_M_isMark at hf
  split at hf
  · obtain ⟨m1, m2, m3, m4⟩ := mx_M_isMark
    refine snd_of (C := C_M_isMark N) (own := 12) (rz := 1) (lim := 115) rI_eq m2 m4 pl_205 (TB_in _ cw_205 rfl) ⟨(fun _ => ⟨_, _, _, _, _, _, rfl, rfl, by rw [m4]; rfl⟩), (fun z => by rw [m3] at z; cases z)⟩ (fun z => by cases z) KDL_take rfl rfl (fun z => by cases z) (fun z => by cases z) (fun _ => rfl) (by rw [m1]; exact Nat.le_of_ble_eq_true rfl)
      (fun _ _ _ _ z => by cases z)
      (fun _ _ _ _ z => by cases z)
      (fun _ _ _ _ z => by cases z)
      (fun _ _ _ _ z => by cases z)
      (fun p e R s m args below meth c Q n0 F hret => ?_)
    rw [m1] at F hret ⊢
    rw [mc_M_isMark] at F hret
    exact cuts_s (K := 400) (M := 18) (D := D_M_isMark N) (B := fun _ _ _ _ _ => none) F hret (chkT_ok chk_M_isMark) (hM_M_isMark N) (fun _ _ _ _ _ z => by cases z) (hD_M_isMark N) N 0 _ _ _ hf
  · cases hf
def T_M_isCell : List (List (Option RW)) := [
  [some (.iload_n 1, 1, [1], 0, 0), some (.ifCond .lt 15, 3, [16], 0, 0), none, none, some (.iload_n 1, 1, [1], 0, 0), some (.aload_n 0, 1, [0], 0, 0), some (.getfield 348, 3, [12, 32, 0], 0, 0), none, none, some (.if_icmp .ge 7, 3, [16], 0, 0), none, none, some (.iconst 1, 1, [], 1, 0), some (.goto 4, 3, [17], 0, 0), none, none, some (.iconst 0, 1, [], 0, 0), some (.ireturn, 1, [], 0, 0)]]
def f_M_isCell (N : Nat) (a1 : Int32) (h : MH) : Option (Int32 × MH) :=
  if a1 < 0 then
  (some (0, h))
  else
  (if (gI h 68 32) ≤ a1 then
  (some (0, h))
  else
  (some (1, h)))
def C_M_isCell (N : Nat) : MC := (KDL, false, (fun _ => 0), jsB, (fun _ _ _ => none), (fun _ _ _ => none), (fun _ _ _ => none), (fun _ _ _ => none))
def D_M_isCell (N : Nat) (n pc : Nat) (lv : ML) (st : List MV) (h : MH) : Option (Int32 × MH) :=
  match Nat.beq pc 0 with
  | true => (match lk lv 0, lk lv 1, st with
    | some (.inr (.inr (0, 12, 68))), some (.inl a1), [] => f_M_isCell N a1 h
    | _, _, _ => none)
  | false => none
set_option maxRecDepth 1000000 in
theorem E_M_isCell_0 (N : Nat) (n : Nat) (a1 : Int32) (h : MH) : seg (C_M_isCell N) 2 1 rI T_M_isCell [0] (fun q lv st h => match Nat.ble 1 q with
    | true => D_M_isCell N n q lv st h
    | false => none) 400 true 0 [(0, .inr (.inr (0, 12, 68))), (1, .inl a1)] [] h = f_M_isCell N a1 h := (rfl)
set_option maxRecDepth 1000000 in
theorem chk_M_isCell : chkT 12 false prog_14_method_44_code T_M_isCell = true := by decide +kernel
theorem mc_M_isCell : mC 206 = prog_14_method_44_code := by rfl
theorem mx_M_isCell : mL 206 = 2 ∧ mR 206 = some .boolean ∧ mK 206 = 1 ∧ (mN 206).cls = cN 12 := by decide +kernel
theorem hD_M_isCell (N : Nat) {r : Int32 × MH} : ∀ n pc lv st h, D_M_isCell N n pc lv st h = some r → ∃ lv', (∀ q ∈ lv', q ∈ lv) ∧ seg (C_M_isCell N) 2 1 rI T_M_isCell [0] (fun q lv st h => match Nat.ble (pc + 1) q with
    | true => D_M_isCell N n q lv st h
    | false => none) 400 true pc lv' st h = some r := by
  intro n pc lv st h hf
  unfold D_M_isCell at hf
  split at hf
  · rename_i hb
    have hb := Nat.eq_of_beq_eq_true hb
    subst hb
    split at hf
    · rename_i y0 e0 e1
      exact ⟨_, (sub_cons e0 (sub_cons e1 sub_nil)), (E_M_isCell_0 N n _ h).trans hf⟩
    · cases hf
  · skip
    cases hf
theorem hM_M_isCell (N : Nat) {r : Int32 × MH} : ∀ n pc lv st h, D_M_isCell N n pc lv st h = some r → pc < 18 := by
  intro n pc lv st h hf
  unfold D_M_isCell at hf
  split at hf
  · rename_i hb
    rw [Nat.eq_of_beq_eq_true hb]
    decide
  · skip
    cases hf
theorem s_M_isCell {l : Launch} {E : EV} {N : Nat} {as : List MV} {h : MH} {r : Int32 × MH} (hf : w_M_isCell (f_M_isCell N) as h = some r) : SndM l E false 0 206 as h (some (.inl r.1)) r.2 := by
  unfold w_M_isCell at hf
  split at hf
  · obtain ⟨m1, m2, m3, m4⟩ := mx_M_isCell
    refine snd_of (C := C_M_isCell N) (own := 12) (rz := 1) (lim := 115) rI_eq m2 m4 pl_206 (TB_in _ cw_206 rfl) ⟨(fun _ => ⟨_, _, _, _, _, _, rfl, rfl, by rw [m4]; rfl⟩), (fun z => by rw [m3] at z; cases z)⟩ (fun z => by cases z) KDL_take rfl rfl (fun z => by cases z) (fun z => by cases z) (fun _ => rfl) (by rw [m1]; exact Nat.le_of_ble_eq_true rfl)
      (fun _ _ _ _ z => by cases z)
      (fun _ _ _ _ z => by cases z)
      (fun _ _ _ _ z => by cases z)
      (fun _ _ _ _ z => by cases z)
      (fun p e R s m args below meth c Q n0 F hret => ?_)
    rw [m1] at F hret ⊢
    rw [mc_M_isCell] at F hret
    exact cuts_s (K := 400) (M := 18) (D := D_M_isCell N) (B := fun _ _ _ _ _ => none) F hret (chkT_ok chk_M_isCell) (hM_M_isCell N) (fun _ _ _ _ _ z => by cases z) (hD_M_isCell N) N 0 _ _ _ hf
  · cases hf
def T_M_many : List (List (Option RW)) := [
  [some (.iload_n 1, 1, [1], 0, 0), some (.ifCond .lt 8, 3, [9], 0, 0), none, none, some (.iload_n 1, 1, [1], 0, 0), some (.iconst 1, 1, [], 1, 0), some (.if_icmp .le 11, 3, [17], 0, 0), none, none, some (.aload_n 0, 1, [0], 0, 0), some (.iconst 1, 1, [], 1, 0), some (.invokevirtual 342, 3, [0, 168, 2, 0], 0, 0), none, none, some (.goto 22, 3, [36], 0, 0), none, none, some (.aload_n 0, 1, [0], 0, 0), some (.iload_n 1, 1, [1], 0, 0), some (.ifCond .ne 10, 3, [29], 0, 0), none, none, some (.aload_n 0, 1, [0], 0, 0), some (.getfield 348, 3, [12, 32, 0], 0, 0), none, none, some (.goto 7, 3, [33], 0, 0), none, none, some (.aload_n 0, 1, [0], 0, 0), some (.getfield 351, 3, [12, 33, 0], 0, 0), none],
  [none, some (.invokevirtual 180, 3, [0, 169, 2, 0], 0, 0), none, none, some (.ireturn, 1, [], 0, 0)]]
def f_M_many (N : Nat) (a1 : Int32) (h : MH) : Option (Int32 × MH) :=
  if a1 < 0 then
  ((f_M_refuse N 1 h).bind (fun x1 =>
  some (x1.1, x1.2)))
  else
  (if a1 ≤ 1 then
  (if a1 = 0 then
  ((f_M_gives N (gI h 68 32) h).bind (fun x2 =>
  some (x2.1, x2.2)))
  else
  ((f_M_gives N (gI h 68 33) h).bind (fun x3 =>
  some (x3.1, x3.2))))
  else
  ((f_M_refuse N 1 h).bind (fun x4 =>
  some (x4.1, x4.2))))
def C_M_many (N : Nat) : MC := (KDL, false, (fun _ => 0), jsB, (fun j => match Nat.beq j 168 with
    | true => w_M_refuse (f_M_refuse N)
    | false => match Nat.beq j 169 with
    | true => w_M_gives (f_M_gives N)
    | false => fun _ _ => none), (fun _ _ _ => none), (fun _ _ _ => none), (fun _ _ _ => none))
def D_M_many (N : Nat) (n pc : Nat) (lv : ML) (st : List MV) (h : MH) : Option (Int32 × MH) :=
  match Nat.beq pc 0 with
  | true => (match lk lv 0, lk lv 1, st with
    | some (.inr (.inr (0, 12, 68))), some (.inl a1), [] => f_M_many N a1 h
    | _, _, _ => none)
  | false => none
set_option maxRecDepth 1000000 in
theorem E_M_many_0 (N : Nat) (n : Nat) (a1 : Int32) (h : MH) : seg (C_M_many N) 2 0 rI T_M_many [0] (fun q lv st h => match Nat.ble 1 q with
    | true => D_M_many N n q lv st h
    | false => none) 400 true 0 [(0, .inr (.inr (0, 12, 68))), (1, .inl a1)] [] h = f_M_many N a1 h := (rfl)
set_option maxRecDepth 1000000 in
theorem chk_M_many : chkT 12 false prog_14_method_45_code T_M_many = true := by decide +kernel
theorem mc_M_many : mC 207 = prog_14_method_45_code := by rfl
theorem mx_M_many : mL 207 = 2 ∧ mR 207 = some .int ∧ mK 207 = 1 ∧ (mN 207).cls = cN 12 := by decide +kernel
theorem hD_M_many (N : Nat) {r : Int32 × MH} : ∀ n pc lv st h, D_M_many N n pc lv st h = some r → ∃ lv', (∀ q ∈ lv', q ∈ lv) ∧ seg (C_M_many N) 2 0 rI T_M_many [0] (fun q lv st h => match Nat.ble (pc + 1) q with
    | true => D_M_many N n q lv st h
    | false => none) 400 true pc lv' st h = some r := by
  intro n pc lv st h hf
  unfold D_M_many at hf
  split at hf
  · rename_i hb
    have hb := Nat.eq_of_beq_eq_true hb
    subst hb
    split at hf
    · rename_i y0 e0 e1
      exact ⟨_, (sub_cons e0 (sub_cons e1 sub_nil)), (E_M_many_0 N n _ h).trans hf⟩
    · cases hf
  · skip
    cases hf
theorem hM_M_many (N : Nat) {r : Int32 × MH} : ∀ n pc lv st h, D_M_many N n pc lv st h = some r → pc < 37 := by
  intro n pc lv st h hf
  unfold D_M_many at hf
  split at hf
  · rename_i hb
    rw [Nat.eq_of_beq_eq_true hb]
    decide
  · skip
    cases hf
theorem s_M_many {l : Launch} {E : EV} {N : Nat} {as : List MV} {h : MH} {r : Int32 × MH} (hf : w_M_many (f_M_many N) as h = some r) : SndM l E false 1 207 as h (some (.inl r.1)) r.2 := by
  unfold w_M_many at hf
  split at hf
  · obtain ⟨m1, m2, m3, m4⟩ := mx_M_many
    refine snd_of (C := C_M_many N) (own := 12) (rz := 0) (lim := 115) rI_eq m2 m4 pl_207 (TB_in _ cw_207 rfl) ⟨(fun _ => ⟨_, _, _, _, _, _, rfl, rfl, by rw [m4]; rfl⟩), (fun z => by rw [m3] at z; cases z)⟩ (fun z => by cases z) KDL_take rfl rfl (fun z => by cases z) (fun z => by cases z) (fun _ => rfl) (by rw [m1]; exact Nat.le_of_ble_eq_true rfl)
      (fun j as h x z => by
      dsimp only [C_M_many] at z
      cases hb : Nat.beq j 168 with
      | true =>
        have hb := Nat.eq_of_beq_eq_true hb
        subst hb
        exact ⟨0, by decide, (fun z => by cases z), s_M_refuse z⟩
      | false =>
        rw [hb] at z
        dsimp only at z
        cases hb : Nat.beq j 169 with
        | true =>
          have hb := Nat.eq_of_beq_eq_true hb
          subst hb
          exact ⟨0, by decide, (fun z => by cases z), s_M_gives z⟩
        | false =>
          rw [hb] at z
          dsimp only at z
          cases z)
      (fun _ _ _ _ z => by cases z)
      (fun _ _ _ _ z => by cases z)
      (fun _ _ _ _ z => by cases z)
      (fun p e R s m args below meth c Q n0 F hret => ?_)
    rw [m1] at F hret ⊢
    rw [mc_M_many] at F hret
    exact cuts_s (K := 400) (M := 37) (D := D_M_many N) (B := fun _ _ _ _ _ => none) F hret (chkT_ok chk_M_many) (hM_M_many N) (fun _ _ _ _ _ z => by cases z) (hD_M_many N) N 0 _ _ _ hf
  · cases hf
def T_M_moves : List (List (Option RW)) := [
  [some (.aload_n 0, 1, [0], 0, 0), some (.iload_n 1, 1, [1], 0, 0), some (.invokevirtual 363, 3, [0, 206, 2, 0], 0, 0), none, none, some (.ifCond .eq 29, 3, [34], 0, 0), none, none, some (.aload_n 0, 1, [0], 0, 0), some (.iload_n 2, 1, [2], 0, 0), some (.invokevirtual 366, 3, [0, 205, 2, 0], 0, 0), none, none, some (.ifCond .eq 21, 3, [34], 0, 0), none, none, some (.aload_n 0, 1, [0], 0, 0), some (.aload_n 0, 1, [0], 0, 0), some (.getfield 81, 3, [12, 37, 2, 1, 48, 20], 0, 0), none, none, some (.bipush 8, 2, [], 8, 0), none, some (.iload_n 1, 1, [1], 0, 0), some (.imul, 1, [], 0, 0), some (.iload_n 2, 1, [2], 0, 0), some (.iadd, 1, [], 0, 0), some (.iaload, 1, [], 0, 0), some (.invokevirtual 180, 3, [0, 169, 2, 0], 0, 0), none, none, some (.goto 8, 3, [39], 0, 0)],
  [none, none, some (.aload_n 0, 1, [0], 0, 0), some (.iconst 1, 1, [], 1, 0), some (.invokevirtual 342, 3, [0, 168, 2, 0], 0, 0), none, none, some (.ireturn, 1, [], 0, 0)]]
def f_M_moves (N : Nat) (a1 : Int32) (a2 : Int32) (h : MH) : Option (Int32 × MH) :=
  (f_M_isCell N a1 h).bind (fun x1 =>
  if x1.1 = 0 then
  ((f_M_refuse N 1 x1.2).bind (fun x2 =>
  some (x2.1, x2.2)))
  else
  ((f_M_isMark N a2 x1.2).bind (fun x3 =>
  if x3.1 = 0 then
  ((f_M_refuse N 1 x3.2).bind (fun x4 =>
  some (x4.1, x4.2)))
  else
  (if inB ((8 * a1) + a2) 48 = true then
  ((f_M_gives N (gI x3.2 88 (iN ((8 * a1) + a2))) x3.2).bind (fun x5 =>
  some (x5.1, x5.2)))
  else none))))
def C_M_moves (N : Nat) : MC := (KDL, false, (fun _ => 0), jsB, (fun j => match Nat.beq j 168 with
    | true => w_M_refuse (f_M_refuse N)
    | false => match Nat.beq j 169 with
    | true => w_M_gives (f_M_gives N)
    | false => match Nat.beq j 205 with
    | true => w_M_isMark (f_M_isMark N)
    | false => match Nat.beq j 206 with
    | true => w_M_isCell (f_M_isCell N)
    | false => fun _ _ => none), (fun _ _ _ => none), (fun _ _ _ => none), (fun _ _ _ => none))
def D_M_moves (N : Nat) (n pc : Nat) (lv : ML) (st : List MV) (h : MH) : Option (Int32 × MH) :=
  match Nat.beq pc 0 with
  | true => (match lk lv 0, lk lv 1, lk lv 2, st with
    | some (.inr (.inr (0, 12, 68))), some (.inl a1), some (.inl a2), [] => f_M_moves N a1 a2 h
    | _, _, _, _ => none)
  | false => none
set_option maxRecDepth 1000000 in
theorem E_M_moves_0 (N : Nat) (n : Nat) (a1 : Int32) (a2 : Int32) (h : MH) : seg (C_M_moves N) 3 0 rI T_M_moves [0] (fun q lv st h => match Nat.ble 1 q with
    | true => D_M_moves N n q lv st h
    | false => none) 400 true 0 [(0, .inr (.inr (0, 12, 68))), (1, .inl a1), (2, .inl a2)] [] h = f_M_moves N a1 a2 h := (rfl)
set_option maxRecDepth 1000000 in
theorem chk_M_moves : chkT 12 false prog_14_method_46_code T_M_moves = true := by decide +kernel
theorem mc_M_moves : mC 208 = prog_14_method_46_code := by rfl
theorem mx_M_moves : mL 208 = 3 ∧ mR 208 = some .int ∧ mK 208 = 1 ∧ (mN 208).cls = cN 12 := by decide +kernel
theorem hD_M_moves (N : Nat) {r : Int32 × MH} : ∀ n pc lv st h, D_M_moves N n pc lv st h = some r → ∃ lv', (∀ q ∈ lv', q ∈ lv) ∧ seg (C_M_moves N) 3 0 rI T_M_moves [0] (fun q lv st h => match Nat.ble (pc + 1) q with
    | true => D_M_moves N n q lv st h
    | false => none) 400 true pc lv' st h = some r := by
  intro n pc lv st h hf
  unfold D_M_moves at hf
  split at hf
  · rename_i hb
    have hb := Nat.eq_of_beq_eq_true hb
    subst hb
    split at hf
    · rename_i y0 y1 e0 e1 e2
      exact ⟨_, (sub_cons e0 (sub_cons e1 (sub_cons e2 sub_nil))), (E_M_moves_0 N n _ _ h).trans hf⟩
    · cases hf
  · skip
    cases hf
theorem hM_M_moves (N : Nat) {r : Int32 × MH} : ∀ n pc lv st h, D_M_moves N n pc lv st h = some r → pc < 40 := by
  intro n pc lv st h hf
  unfold D_M_moves at hf
  split at hf
  · rename_i hb
    rw [Nat.eq_of_beq_eq_true hb]
    decide
  · skip
    cases hf
theorem s_M_moves {l : Launch} {E : EV} {N : Nat} {as : List MV} {h : MH} {r : Int32 × MH} (hf : w_M_moves (f_M_moves N) as h = some r) : SndM l E false 1 208 as h (some (.inl r.1)) r.2 := by
  unfold w_M_moves at hf
  split at hf
  · obtain ⟨m1, m2, m3, m4⟩ := mx_M_moves
    refine snd_of (C := C_M_moves N) (own := 12) (rz := 0) (lim := 115) rI_eq m2 m4 pl_208 (TB_in _ cw_208 rfl) ⟨(fun _ => ⟨_, _, _, _, _, _, rfl, rfl, by rw [m4]; rfl⟩), (fun z => by rw [m3] at z; cases z)⟩ (fun z => by cases z) KDL_take rfl rfl (fun z => by cases z) (fun z => by cases z) (fun _ => rfl) (by rw [m1]; exact Nat.le_of_ble_eq_true rfl)
      (fun j as h x z => by
      dsimp only [C_M_moves] at z
      cases hb : Nat.beq j 168 with
      | true =>
        have hb := Nat.eq_of_beq_eq_true hb
        subst hb
        exact ⟨0, by decide, (fun z => by cases z), s_M_refuse z⟩
      | false =>
        rw [hb] at z
        dsimp only at z
        cases hb : Nat.beq j 169 with
        | true =>
          have hb := Nat.eq_of_beq_eq_true hb
          subst hb
          exact ⟨0, by decide, (fun z => by cases z), s_M_gives z⟩
        | false =>
          rw [hb] at z
          dsimp only at z
          cases hb : Nat.beq j 205 with
          | true =>
            have hb := Nat.eq_of_beq_eq_true hb
            subst hb
            exact ⟨0, by decide, (fun z => by cases z), s_M_isMark z⟩
          | false =>
            rw [hb] at z
            dsimp only at z
            cases hb : Nat.beq j 206 with
            | true =>
              have hb := Nat.eq_of_beq_eq_true hb
              subst hb
              exact ⟨0, by decide, (fun z => by cases z), s_M_isCell z⟩
            | false =>
              rw [hb] at z
              dsimp only at z
              cases z)
      (fun _ _ _ _ z => by cases z)
      (fun _ _ _ _ z => by cases z)
      (fun _ _ _ _ z => by cases z)
      (fun p e R s m args below meth c Q n0 F hret => ?_)
    rw [m1] at F hret ⊢
    rw [mc_M_moves] at F hret
    exact cuts_s (K := 400) (M := 40) (D := D_M_moves N) (B := fun _ _ _ _ _ => none) F hret (chkT_ok chk_M_moves) (hM_M_moves N) (fun _ _ _ _ _ z => by cases z) (hD_M_moves N) N 0 _ _ _ hf
  · cases hf
def T_M_isYear : List (List (Option RW)) := [
  [some (.iload_n 0, 1, [0], 0, 0), some (.ifCond .lt 13, 3, [14], 0, 0), none, none, some (.iload_n 0, 1, [0], 0, 0), some (.bipush 20, 2, [], 20, 0), none, some (.if_icmp .ge 7, 3, [14], 0, 0), none, none, some (.iconst 1, 1, [], 1, 0), some (.goto 4, 3, [15], 0, 0), none, none, some (.iconst 0, 1, [], 0, 0), some (.ireturn, 1, [], 0, 0)]]
def f_M_isYear (N : Nat) (a0 : Int32) (h : MH) : Option (Int32 × MH) :=
  if a0 < 0 then
  (some (0, h))
  else
  (if 20 ≤ a0 then
  (some (0, h))
  else
  (some (1, h)))
def C_M_isYear (N : Nat) : MC := (KDL, false, (fun _ => 0), jsB, (fun _ _ _ => none), (fun _ _ _ => none), (fun _ _ _ => none), (fun _ _ _ => none))
def D_M_isYear (N : Nat) (n pc : Nat) (lv : ML) (st : List MV) (h : MH) : Option (Int32 × MH) :=
  match Nat.beq pc 0 with
  | true => (match lk lv 0, st with
    | some (.inl a0), [] => f_M_isYear N a0 h
    | _, _ => none)
  | false => none
set_option maxRecDepth 1000000 in
theorem E_M_isYear_0 (N : Nat) (n : Nat) (a0 : Int32) (h : MH) : seg (C_M_isYear N) 1 1 rI T_M_isYear [0] (fun q lv st h => match Nat.ble 1 q with
    | true => D_M_isYear N n q lv st h
    | false => none) 400 true 0 [(0, .inl a0)] [] h = f_M_isYear N a0 h := (rfl)
set_option maxRecDepth 1000000 in
theorem chk_M_isYear : chkT 12 false prog_14_method_47_code T_M_isYear = true := by decide +kernel
theorem mc_M_isYear : mC 209 = prog_14_method_47_code := by rfl
theorem mx_M_isYear : mL 209 = 1 ∧ mR 209 = some .boolean ∧ mK 209 = 0 ∧ (mN 209).cls = cN 12 := by decide +kernel
theorem hD_M_isYear (N : Nat) {r : Int32 × MH} : ∀ n pc lv st h, D_M_isYear N n pc lv st h = some r → ∃ lv', (∀ q ∈ lv', q ∈ lv) ∧ seg (C_M_isYear N) 1 1 rI T_M_isYear [0] (fun q lv st h => match Nat.ble (pc + 1) q with
    | true => D_M_isYear N n q lv st h
    | false => none) 400 true pc lv' st h = some r := by
  intro n pc lv st h hf
  unfold D_M_isYear at hf
  split at hf
  · rename_i hb
    have hb := Nat.eq_of_beq_eq_true hb
    subst hb
    split at hf
    · rename_i y0 e0
      exact ⟨_, (sub_cons e0 sub_nil), (E_M_isYear_0 N n _ h).trans hf⟩
    · cases hf
  · skip
    cases hf
theorem hM_M_isYear (N : Nat) {r : Int32 × MH} : ∀ n pc lv st h, D_M_isYear N n pc lv st h = some r → pc < 16 := by
  intro n pc lv st h hf
  unfold D_M_isYear at hf
  split at hf
  · rename_i hb
    rw [Nat.eq_of_beq_eq_true hb]
    decide
  · skip
    cases hf
theorem s_M_isYear {l : Launch} {E : EV} {N : Nat} {as : List MV} {h : MH} {r : Int32 × MH} (hf : w_M_isYear (f_M_isYear N) as h = some r) : SndM l E false 0 209 as h (some (.inl r.1)) r.2 := by
  unfold w_M_isYear at hf
  split at hf
  · obtain ⟨m1, m2, m3, m4⟩ := mx_M_isYear
    refine snd_of (C := C_M_isYear N) (own := 12) (rz := 1) (lim := 115) rI_eq m2 m4 pl_209 (TB_in _ cw_209 rfl) ⟨(fun z => by rw [m3] at z; cases z), (fun z => by rw [m3] at z; cases z)⟩ (fun z => by cases z) KDL_take rfl rfl (fun z => by cases z) (fun z => by cases z) (fun _ => rfl) (by rw [m1]; exact Nat.le_of_ble_eq_true rfl)
      (fun _ _ _ _ z => by cases z)
      (fun _ _ _ _ z => by cases z)
      (fun _ _ _ _ z => by cases z)
      (fun _ _ _ _ z => by cases z)
      (fun p e R s m args below meth c Q n0 F hret => ?_)
    rw [m1] at F hret ⊢
    rw [mc_M_isYear] at F hret
    exact cuts_s (K := 400) (M := 16) (D := D_M_isYear N) (B := fun _ _ _ _ _ => none) F hret (chkT_ok chk_M_isYear) (hM_M_isYear N) (fun _ _ _ _ _ z => by cases z) (hD_M_isYear N) N 0 _ _ _ hf
  · cases hf
def T_M_isDay : List (List (Option RW)) := [
  [some (.iload_n 0, 1, [0], 0, 0), some (.ifCond .lt 14, 3, [15], 0, 0), none, none, some (.iload_n 0, 1, [0], 0, 0), some (.sipush 9999, 3, [], 9999, 0), none, none, some (.if_icmp .gt 7, 3, [15], 0, 0), none, none, some (.iconst 1, 1, [], 1, 0), some (.goto 4, 3, [16], 0, 0), none, none, some (.iconst 0, 1, [], 0, 0), some (.ireturn, 1, [], 0, 0)]]
def f_M_isDay (N : Nat) (a0 : Int32) (h : MH) : Option (Int32 × MH) :=
  if a0 < 0 then
  (some (0, h))
  else
  (if 9999 < a0 then
  (some (0, h))
  else
  (some (1, h)))
def C_M_isDay (N : Nat) : MC := (KDL, false, (fun _ => 0), jsB, (fun _ _ _ => none), (fun _ _ _ => none), (fun _ _ _ => none), (fun _ _ _ => none))
def D_M_isDay (N : Nat) (n pc : Nat) (lv : ML) (st : List MV) (h : MH) : Option (Int32 × MH) :=
  match Nat.beq pc 0 with
  | true => (match lk lv 0, st with
    | some (.inl a0), [] => f_M_isDay N a0 h
    | _, _ => none)
  | false => none
set_option maxRecDepth 1000000 in
theorem E_M_isDay_0 (N : Nat) (n : Nat) (a0 : Int32) (h : MH) : seg (C_M_isDay N) 1 1 rI T_M_isDay [0] (fun q lv st h => match Nat.ble 1 q with
    | true => D_M_isDay N n q lv st h
    | false => none) 400 true 0 [(0, .inl a0)] [] h = f_M_isDay N a0 h := (rfl)
set_option maxRecDepth 1000000 in
theorem chk_M_isDay : chkT 12 false prog_14_method_48_code T_M_isDay = true := by decide +kernel
theorem mc_M_isDay : mC 210 = prog_14_method_48_code := by rfl
theorem mx_M_isDay : mL 210 = 1 ∧ mR 210 = some .boolean ∧ mK 210 = 0 ∧ (mN 210).cls = cN 12 := by decide +kernel
theorem hD_M_isDay (N : Nat) {r : Int32 × MH} : ∀ n pc lv st h, D_M_isDay N n pc lv st h = some r → ∃ lv', (∀ q ∈ lv', q ∈ lv) ∧ seg (C_M_isDay N) 1 1 rI T_M_isDay [0] (fun q lv st h => match Nat.ble (pc + 1) q with
    | true => D_M_isDay N n q lv st h
    | false => none) 400 true pc lv' st h = some r := by
  intro n pc lv st h hf
  unfold D_M_isDay at hf
  split at hf
  · rename_i hb
    have hb := Nat.eq_of_beq_eq_true hb
    subst hb
    split at hf
    · rename_i y0 e0
      exact ⟨_, (sub_cons e0 sub_nil), (E_M_isDay_0 N n _ h).trans hf⟩
    · cases hf
  · skip
    cases hf
theorem hM_M_isDay (N : Nat) {r : Int32 × MH} : ∀ n pc lv st h, D_M_isDay N n pc lv st h = some r → pc < 17 := by
  intro n pc lv st h hf
  unfold D_M_isDay at hf
  split at hf
  · rename_i hb
    rw [Nat.eq_of_beq_eq_true hb]
    decide
  · skip
    cases hf
theorem s_M_isDay {l : Launch} {E : EV} {N : Nat} {as : List MV} {h : MH} {r : Int32 × MH} (hf : w_M_isDay (f_M_isDay N) as h = some r) : SndM l E false 0 210 as h (some (.inl r.1)) r.2 := by
  unfold w_M_isDay at hf
  split at hf
  · obtain ⟨m1, m2, m3, m4⟩ := mx_M_isDay
    refine snd_of (C := C_M_isDay N) (own := 12) (rz := 1) (lim := 115) rI_eq m2 m4 pl_210 (TB_in _ cw_210 rfl) ⟨(fun z => by rw [m3] at z; cases z), (fun z => by rw [m3] at z; cases z)⟩ (fun z => by cases z) KDL_take rfl rfl (fun z => by cases z) (fun z => by cases z) (fun _ => rfl) (by rw [m1]; exact Nat.le_of_ble_eq_true rfl)
      (fun _ _ _ _ z => by cases z)
      (fun _ _ _ _ z => by cases z)
      (fun _ _ _ _ z => by cases z)
      (fun _ _ _ _ z => by cases z)
      (fun p e R s m args below meth c Q n0 F hret => ?_)
    rw [m1] at F hret ⊢
    rw [mc_M_isDay] at F hret
    exact cuts_s (K := 400) (M := 17) (D := D_M_isDay N) (B := fun _ _ _ _ _ => none) F hret (chkT_ok chk_M_isDay) (hM_M_isDay N) (fun _ _ _ _ _ z => by cases z) (hD_M_isDay N) N 0 _ _ _ hf
  · cases hf
def T_M_isPlace : List (List (Option RW)) := [
  [some (.iload_n 0, 1, [0], 0, 0), some (.sipush (-2000), 3, [], (-2000), 0), none, none, some (.if_icmp .lt 14, 3, [18], 0, 0), none, none, some (.iload_n 0, 1, [0], 0, 0), some (.sipush 2000, 3, [], 2000, 0), none, none, some (.if_icmp .gt 7, 3, [18], 0, 0), none, none, some (.iconst 1, 1, [], 1, 0), some (.goto 4, 3, [19], 0, 0), none, none, some (.iconst 0, 1, [], 0, 0), some (.ireturn, 1, [], 0, 0)]]
def f_M_isPlace (N : Nat) (a0 : Int32) (h : MH) : Option (Int32 × MH) :=
  if a0 < ((-2000)) then
  (some (0, h))
  else
  (if 2000 < a0 then
  (some (0, h))
  else
  (some (1, h)))
def C_M_isPlace (N : Nat) : MC := (KDL, false, (fun _ => 0), jsB, (fun _ _ _ => none), (fun _ _ _ => none), (fun _ _ _ => none), (fun _ _ _ => none))
def D_M_isPlace (N : Nat) (n pc : Nat) (lv : ML) (st : List MV) (h : MH) : Option (Int32 × MH) :=
  match Nat.beq pc 0 with
  | true => (match lk lv 0, st with
    | some (.inl a0), [] => f_M_isPlace N a0 h
    | _, _ => none)
  | false => none
set_option maxRecDepth 1000000 in
theorem E_M_isPlace_0 (N : Nat) (n : Nat) (a0 : Int32) (h : MH) : seg (C_M_isPlace N) 1 1 rI T_M_isPlace [0] (fun q lv st h => match Nat.ble 1 q with
    | true => D_M_isPlace N n q lv st h
    | false => none) 400 true 0 [(0, .inl a0)] [] h = f_M_isPlace N a0 h := (rfl)
set_option maxRecDepth 1000000 in
theorem chk_M_isPlace : chkT 12 false prog_14_method_49_code T_M_isPlace = true := by decide +kernel
theorem mc_M_isPlace : mC 211 = prog_14_method_49_code := by rfl
theorem mx_M_isPlace : mL 211 = 1 ∧ mR 211 = some .boolean ∧ mK 211 = 0 ∧ (mN 211).cls = cN 12 := by decide +kernel
theorem hD_M_isPlace (N : Nat) {r : Int32 × MH} : ∀ n pc lv st h, D_M_isPlace N n pc lv st h = some r → ∃ lv', (∀ q ∈ lv', q ∈ lv) ∧ seg (C_M_isPlace N) 1 1 rI T_M_isPlace [0] (fun q lv st h => match Nat.ble (pc + 1) q with
    | true => D_M_isPlace N n q lv st h
    | false => none) 400 true pc lv' st h = some r := by
  intro n pc lv st h hf
  unfold D_M_isPlace at hf
  split at hf
  · rename_i hb
    have hb := Nat.eq_of_beq_eq_true hb
    subst hb
    split at hf
    · rename_i y0 e0
      exact ⟨_, (sub_cons e0 sub_nil), (E_M_isPlace_0 N n _ h).trans hf⟩
    · cases hf
  · skip
    cases hf
theorem hM_M_isPlace (N : Nat) {r : Int32 × MH} : ∀ n pc lv st h, D_M_isPlace N n pc lv st h = some r → pc < 20 := by
  intro n pc lv st h hf
  unfold D_M_isPlace at hf
  split at hf
  · rename_i hb
    rw [Nat.eq_of_beq_eq_true hb]
    decide
  · skip
    cases hf
theorem s_M_isPlace {l : Launch} {E : EV} {N : Nat} {as : List MV} {h : MH} {r : Int32 × MH} (hf : w_M_isPlace (f_M_isPlace N) as h = some r) : SndM l E false 0 211 as h (some (.inl r.1)) r.2 := by
  unfold w_M_isPlace at hf
  split at hf
  · obtain ⟨m1, m2, m3, m4⟩ := mx_M_isPlace
    refine snd_of (C := C_M_isPlace N) (own := 12) (rz := 1) (lim := 115) rI_eq m2 m4 pl_211 (TB_in _ cw_211 rfl) ⟨(fun z => by rw [m3] at z; cases z), (fun z => by rw [m3] at z; cases z)⟩ (fun z => by cases z) KDL_take rfl rfl (fun z => by cases z) (fun z => by cases z) (fun _ => rfl) (by rw [m1]; exact Nat.le_of_ble_eq_true rfl)
      (fun _ _ _ _ z => by cases z)
      (fun _ _ _ _ z => by cases z)
      (fun _ _ _ _ z => by cases z)
      (fun _ _ _ _ z => by cases z)
      (fun p e R s m args below meth c Q n0 F hret => ?_)
    rw [m1] at F hret ⊢
    rw [mc_M_isPlace] at F hret
    exact cuts_s (K := 400) (M := 20) (D := D_M_isPlace N) (B := fun _ _ _ _ _ => none) F hret (chkT_ok chk_M_isPlace) (hM_M_isPlace N) (fun _ _ _ _ _ z => by cases z) (hD_M_isPlace N) N 0 _ _ _ hf
  · cases hf
def T_M_row : List (List (Option RW)) := [
  [some (.aload_n 0, 1, [0], 0, 0), some (.iload_n 1, 1, [1], 0, 0), some (.invokevirtual 366, 3, [0, 205, 2, 0], 0, 0), none, none, some (.ifCond .eq 38, 3, [43], 0, 0), none, none, some (.iload_n 2, 1, [2], 0, 0), some (.invokestatic 369, 3, [2, 209, 1, 0], 0, 0), none, none, some (.ifCond .eq 31, 3, [43], 0, 0), none, none, some (.iload_n 3, 1, [3], 0, 0), some (.invokestatic 372, 3, [2, 211, 1, 0], 0, 0), none, none, some (.ifCond .eq 24, 3, [43], 0, 0), none, none, some (.iload 4, 2, [4], 0, 0), none, some (.ifCond .lt 19, 3, [43], 0, 0), none, none, some (.iload 4, 2, [4], 0, 0), none, some (.sipush 200, 3, [], 200, 0), none, none],
  [some (.if_icmp .gt 11, 3, [43], 0, 0), none, none, some (.iload 5, 2, [5], 0, 0), none, some (.invokestatic 375, 3, [2, 210, 1, 0], 0, 0), none, none, some (.ifCond .ne 9, 3, [49], 0, 0), none, none, some (.aload_n 0, 1, [0], 0, 0), some (.iconst 1, 1, [], 1, 0), some (.invokevirtual 188, 3, [0, 167, 2, 0], 0, 0), none, none, some (.ireturn, 1, [], 0, 0), some (.aload_n 0, 1, [0], 0, 0), some (.getfield 354, 3, [12, 48, 0], 0, 0), none, none, some (.sipush 160, 3, [], 160, 0), none, none, some (.if_icmp .ne 9, 3, [65], 0, 0), none, none, some (.aload_n 0, 1, [0], 0, 0), some (.iconst 4, 1, [], 4, 0), some (.invokevirtual 188, 3, [0, 167, 2, 0], 0, 0), none, none],
  [some (.ireturn, 1, [], 0, 0), some (.iload 5, 2, [5], 0, 0), none, some (.aload_n 0, 1, [0], 0, 0), some (.getfield 378, 3, [12, 50, 0], 0, 0), none, none, some (.if_icmp .ge 9, 3, [80], 0, 0), none, none, some (.aload_n 0, 1, [0], 0, 0), some (.iconst 5, 1, [], 5, 0), some (.invokevirtual 188, 3, [0, 167, 2, 0], 0, 0), none, none, some (.ireturn, 1, [], 0, 0), some (.aload_n 0, 1, [0], 0, 0), some (.iload 5, 2, [5], 0, 0), none, some (.putfield 378, 3, [12, 50, 0], 0, 0), none, none, some (.aload_n 0, 1, [0], 0, 0), some (.getfield 105, 3, [12, 52, 2, 1, 160, 27], 0, 0), none, none, some (.aload_n 0, 1, [0], 0, 0), some (.getfield 354, 3, [12, 48, 0], 0, 0), none, none, some (.iload_n 1, 1, [1], 0, 0), some (.iastore, 1, [], 0, 0)],
  [some (.aload_n 0, 1, [0], 0, 0), some (.getfield 108, 3, [12, 53, 2, 1, 160, 28], 0, 0), none, none, some (.aload_n 0, 1, [0], 0, 0), some (.getfield 354, 3, [12, 48, 0], 0, 0), none, none, some (.iload_n 2, 1, [2], 0, 0), some (.iastore, 1, [], 0, 0), some (.aload_n 0, 1, [0], 0, 0), some (.getfield 111, 3, [12, 54, 2, 1, 160, 29], 0, 0), none, none, some (.aload_n 0, 1, [0], 0, 0), some (.getfield 354, 3, [12, 48, 0], 0, 0), none, none, some (.iload_n 3, 1, [3], 0, 0), some (.iastore, 1, [], 0, 0), some (.aload_n 0, 1, [0], 0, 0), some (.getfield 114, 3, [12, 55, 2, 1, 160, 30], 0, 0), none, none, some (.aload_n 0, 1, [0], 0, 0), some (.getfield 354, 3, [12, 48, 0], 0, 0), none, none, some (.iload 4, 2, [4], 0, 0), none, some (.iastore, 1, [], 0, 0), some (.aload_n 0, 1, [0], 0, 0)],
  [some (.getfield 117, 3, [12, 56, 2, 1, 160, 31], 0, 0), none, none, some (.aload_n 0, 1, [0], 0, 0), some (.getfield 354, 3, [12, 48, 0], 0, 0), none, none, some (.iload 5, 2, [5], 0, 0), none, some (.iastore, 1, [], 0, 0), some (.aload_n 0, 1, [0], 0, 0), some (.dup, 1, [], 0, 0), some (.getfield 354, 3, [12, 48, 0], 0, 0), none, none, some (.iconst 1, 1, [], 1, 0), some (.iadd, 1, [], 0, 0), some (.putfield 354, 3, [12, 48, 0], 0, 0), none, none, some (.aload_n 0, 1, [0], 0, 0), some (.iconst 0, 1, [], 0, 0), some (.invokevirtual 188, 3, [0, 167, 2, 0], 0, 0), none, none, some (.ireturn, 1, [], 0, 0)]]
def f_M_row (N : Nat) (a1 : Int32) (a2 : Int32) (a3 : Int32) (a4 : Int32) (a5 : Int32) (h : MH) : Option (Int32 × MH) :=
  (f_M_isMark N a1 h).bind (fun x1 =>
  if x1.1 = 0 then
  ((f_M_is N 1 x1.2).bind (fun x2 =>
  match narOK 1 x2.1 with
  | true => some (x2.1, x2.2)
  | false => none))
  else
  ((f_M_isYear N a2 x1.2).bind (fun x3 =>
  if x3.1 = 0 then
  ((f_M_is N 1 x3.2).bind (fun x4 =>
  match narOK 1 x4.1 with
  | true => some (x4.1, x4.2)
  | false => none))
  else
  ((f_M_isPlace N a3 x3.2).bind (fun x5 =>
  if x5.1 = 0 then
  ((f_M_is N 1 x5.2).bind (fun x6 =>
  match narOK 1 x6.1 with
  | true => some (x6.1, x6.2)
  | false => none))
  else
  (if a4 < 0 then
  ((f_M_is N 1 x5.2).bind (fun x7 =>
  match narOK 1 x7.1 with
  | true => some (x7.1, x7.2)
  | false => none))
  else
  (if 200 < a4 then
  ((f_M_is N 1 x5.2).bind (fun x8 =>
  match narOK 1 x8.1 with
  | true => some (x8.1, x8.2)
  | false => none))
  else
  ((f_M_isDay N a5 x5.2).bind (fun x9 =>
  if x9.1 = 0 then
  ((f_M_is N 1 x9.2).bind (fun x10 =>
  match narOK 1 x10.1 with
  | true => some (x10.1, x10.2)
  | false => none))
  else
  (if (gI x9.2 68 48) = 160 then
  ((f_M_is N 4 x9.2).bind (fun x11 =>
  match narOK 1 x11.1 with
  | true => some (x11.1, x11.2)
  | false => none))
  else
  (if (gI x9.2 68 50) ≤ a5 then
  (let h12 : MH := sI x9.2 68 50 a5
  if inB (gI h12 68 48) 160 = true then
  (let h13 : MH := sI h12 95 (iN (gI h12 68 48)) a1
  if inB (gI h13 68 48) 160 = true then
  (let h14 : MH := sI h13 96 (iN (gI h13 68 48)) a2
  if inB (gI h14 68 48) 160 = true then
  (let h15 : MH := sI h14 97 (iN (gI h14 68 48)) a3
  if inB (gI h15 68 48) 160 = true then
  (let h16 : MH := sI h15 98 (iN (gI h15 68 48)) a4
  if inB (gI h16 68 48) 160 = true then
  (let h17 : MH := sI h16 99 (iN (gI h16 68 48)) a5
  let h18 : MH := sI h17 68 48 ((gI h17 68 48) + 1)
  (f_M_is N 0 h18).bind (fun x19 =>
  match narOK 1 x19.1 with
  | true => some (x19.1, x19.2)
  | false => none))
  else none)
  else none)
  else none)
  else none)
  else none)
  else
  ((f_M_is N 5 x9.2).bind (fun x20 =>
  match narOK 1 x20.1 with
  | true => some (x20.1, x20.2)
  | false => none)))))))))))))
def C_M_row (N : Nat) : MC := (KDL, false, (fun _ => 0), jsB, (fun j => match Nat.beq j 167 with
    | true => w_M_is (f_M_is N)
    | false => match Nat.beq j 205 with
    | true => w_M_isMark (f_M_isMark N)
    | false => match Nat.beq j 209 with
    | true => w_M_isYear (f_M_isYear N)
    | false => match Nat.beq j 210 with
    | true => w_M_isDay (f_M_isDay N)
    | false => match Nat.beq j 211 with
    | true => w_M_isPlace (f_M_isPlace N)
    | false => fun _ _ => none), (fun _ _ _ => none), (fun _ _ _ => none), (fun _ _ _ => none))
def D_M_row (N : Nat) (n pc : Nat) (lv : ML) (st : List MV) (h : MH) : Option (Int32 × MH) :=
  match Nat.beq pc 0 with
  | true => (match lk lv 0, lk lv 1, lk lv 2, lk lv 3, lk lv 4, lk lv 5, st with
    | some (.inr (.inr (0, 12, 68))), some (.inl a1), some (.inl a2), some (.inl a3), some (.inl a4), some (.inl a5), [] => f_M_row N a1 a2 a3 a4 a5 h
    | _, _, _, _, _, _, _ => none)
  | false => none
set_option maxRecDepth 1000000 in
theorem E_M_row_0 (N : Nat) (n : Nat) (a1 : Int32) (a2 : Int32) (a3 : Int32) (a4 : Int32) (a5 : Int32) (h : MH) : seg (C_M_row N) 6 1 rI T_M_row [0] (fun q lv st h => match Nat.ble 1 q with
    | true => D_M_row N n q lv st h
    | false => none) 400 true 0 [(0, .inr (.inr (0, 12, 68))), (1, .inl a1), (2, .inl a2), (3, .inl a3), (4, .inl a4), (5, .inl a5)] [] h = f_M_row N a1 a2 a3 a4 a5 h := (rfl)
set_option maxRecDepth 1000000 in
theorem chk_M_row : chkT 12 false prog_14_method_50_code T_M_row = true := by decide +kernel
theorem mc_M_row : mC 212 = prog_14_method_50_code := by rfl
theorem mx_M_row : mL 212 = 6 ∧ mR 212 = some .boolean ∧ mK 212 = 1 ∧ (mN 212).cls = cN 12 := by decide +kernel
theorem hD_M_row (N : Nat) {r : Int32 × MH} : ∀ n pc lv st h, D_M_row N n pc lv st h = some r → ∃ lv', (∀ q ∈ lv', q ∈ lv) ∧ seg (C_M_row N) 6 1 rI T_M_row [0] (fun q lv st h => match Nat.ble (pc + 1) q with
    | true => D_M_row N n q lv st h
    | false => none) 400 true pc lv' st h = some r := by
  intro n pc lv st h hf
  unfold D_M_row at hf
  split at hf
  · rename_i hb
    have hb := Nat.eq_of_beq_eq_true hb
    subst hb
    split at hf
    · rename_i y0 y1 y2 y3 y4 e0 e1 e2 e3 e4 e5
      exact ⟨_, (sub_cons e0 (sub_cons e1 (sub_cons e2 (sub_cons e3 (sub_cons e4 (sub_cons e5 sub_nil)))))), (E_M_row_0 N n _ _ _ _ _ h).trans hf⟩
    · cases hf
  · skip
    cases hf
theorem hM_M_row (N : Nat) {r : Int32 × MH} : ∀ n pc lv st h, D_M_row N n pc lv st h = some r → pc < 154 := by
  intro n pc lv st h hf
  unfold D_M_row at hf
  split at hf
  · rename_i hb
    rw [Nat.eq_of_beq_eq_true hb]
    decide
  · skip
    cases hf
theorem s_M_row {l : Launch} {E : EV} {N : Nat} {as : List MV} {h : MH} {r : Int32 × MH} (hf : w_M_row (f_M_row N) as h = some r) : SndM l E false 1 212 as h (some (.inl r.1)) r.2 := by
  unfold w_M_row at hf
  split at hf
  · obtain ⟨m1, m2, m3, m4⟩ := mx_M_row
    refine snd_of (C := C_M_row N) (own := 12) (rz := 1) (lim := 115) rI_eq m2 m4 pl_212 (TB_in _ cw_212 rfl) ⟨(fun _ => ⟨_, _, _, _, _, _, rfl, rfl, by rw [m4]; rfl⟩), (fun z => by rw [m3] at z; cases z)⟩ (fun z => by cases z) KDL_take rfl rfl (fun z => by cases z) (fun z => by cases z) (fun _ => rfl) (by rw [m1]; exact Nat.le_of_ble_eq_true rfl)
      (fun j as h x z => by
      dsimp only [C_M_row] at z
      cases hb : Nat.beq j 167 with
      | true =>
        have hb := Nat.eq_of_beq_eq_true hb
        subst hb
        exact ⟨0, by decide, (fun z => by cases z), s_M_is z⟩
      | false =>
        rw [hb] at z
        dsimp only at z
        cases hb : Nat.beq j 205 with
        | true =>
          have hb := Nat.eq_of_beq_eq_true hb
          subst hb
          exact ⟨0, by decide, (fun z => by cases z), s_M_isMark z⟩
        | false =>
          rw [hb] at z
          dsimp only at z
          cases hb : Nat.beq j 209 with
          | true =>
            have hb := Nat.eq_of_beq_eq_true hb
            subst hb
            exact ⟨0, by decide, (fun z => by cases z), s_M_isYear z⟩
          | false =>
            rw [hb] at z
            dsimp only at z
            cases hb : Nat.beq j 210 with
            | true =>
              have hb := Nat.eq_of_beq_eq_true hb
              subst hb
              exact ⟨0, by decide, (fun z => by cases z), s_M_isDay z⟩
            | false =>
              rw [hb] at z
              dsimp only at z
              cases hb : Nat.beq j 211 with
              | true =>
                have hb := Nat.eq_of_beq_eq_true hb
                subst hb
                exact ⟨0, by decide, (fun z => by cases z), s_M_isPlace z⟩
              | false =>
                rw [hb] at z
                dsimp only at z
                cases z)
      (fun _ _ _ _ z => by cases z)
      (fun _ _ _ _ z => by cases z)
      (fun _ _ _ _ z => by cases z)
      (fun p e R s m args below meth c Q n0 F hret => ?_)
    rw [m1] at F hret ⊢
    rw [mc_M_row] at F hret
    exact cuts_s (K := 400) (M := 154) (D := D_M_row N) (B := fun _ _ _ _ _ => none) F hret (chkT_ok chk_M_row) (hM_M_row N) (fun _ _ _ _ _ z => by cases z) (hD_M_row N) N 0 _ _ _ hf
  · cases hf
def T_M_offset : List (List (Option RW)) := [
  [some (.aload_n 0, 1, [0], 0, 0), some (.iload_n 1, 1, [1], 0, 0), some (.invokevirtual 366, 3, [0, 205, 2, 0], 0, 0), none, none, some (.ifCond .eq 17, 3, [22], 0, 0), none, none, some (.iload_n 2, 1, [2], 0, 0), some (.invokestatic 369, 3, [2, 209, 1, 0], 0, 0), none, none, some (.ifCond .eq 10, 3, [22], 0, 0), none, none, some (.iload_n 3, 1, [3], 0, 0), some (.invokestatic 372, 3, [2, 211, 1, 0], 0, 0), none, none, some (.ifCond .ne 9, 3, [28], 0, 0), none, none, some (.aload_n 0, 1, [0], 0, 0), some (.iconst 1, 1, [], 1, 0), some (.invokevirtual 188, 3, [0, 167, 2, 0], 0, 0), none, none, some (.ireturn, 1, [], 0, 0), some (.aload_n 0, 1, [0], 0, 0), some (.getfield 357, 3, [12, 49, 0], 0, 0), none, none],
  [some (.bipush 20, 2, [], 20, 0), none, some (.if_icmp .ne 9, 3, [43], 0, 0), none, none, some (.aload_n 0, 1, [0], 0, 0), some (.iconst 4, 1, [], 4, 0), some (.invokevirtual 188, 3, [0, 167, 2, 0], 0, 0), none, none, some (.ireturn, 1, [], 0, 0), some (.aload_n 0, 1, [0], 0, 0), some (.getfield 120, 3, [12, 57, 2, 1, 20, 32], 0, 0), none, none, some (.aload_n 0, 1, [0], 0, 0), some (.getfield 357, 3, [12, 49, 0], 0, 0), none, none, some (.iload_n 1, 1, [1], 0, 0), some (.iastore, 1, [], 0, 0), some (.aload_n 0, 1, [0], 0, 0), some (.getfield 123, 3, [12, 58, 2, 1, 20, 33], 0, 0), none, none, some (.aload_n 0, 1, [0], 0, 0), some (.getfield 357, 3, [12, 49, 0], 0, 0), none, none, some (.iload_n 2, 1, [2], 0, 0), some (.iastore, 1, [], 0, 0), some (.aload_n 0, 1, [0], 0, 0)],
  [some (.getfield 126, 3, [12, 59, 2, 1, 20, 34], 0, 0), none, none, some (.aload_n 0, 1, [0], 0, 0), some (.getfield 357, 3, [12, 49, 0], 0, 0), none, none, some (.iload_n 3, 1, [3], 0, 0), some (.iastore, 1, [], 0, 0), some (.aload_n 0, 1, [0], 0, 0), some (.dup, 1, [], 0, 0), some (.getfield 357, 3, [12, 49, 0], 0, 0), none, none, some (.iconst 1, 1, [], 1, 0), some (.iadd, 1, [], 0, 0), some (.putfield 357, 3, [12, 49, 0], 0, 0), none, none, some (.aload_n 0, 1, [0], 0, 0), some (.iconst 0, 1, [], 0, 0), some (.invokevirtual 188, 3, [0, 167, 2, 0], 0, 0), none, none, some (.ireturn, 1, [], 0, 0)]]
def f_M_offset (N : Nat) (a1 : Int32) (a2 : Int32) (a3 : Int32) (h : MH) : Option (Int32 × MH) :=
  (f_M_isMark N a1 h).bind (fun x1 =>
  if x1.1 = 0 then
  ((f_M_is N 1 x1.2).bind (fun x2 =>
  match narOK 1 x2.1 with
  | true => some (x2.1, x2.2)
  | false => none))
  else
  ((f_M_isYear N a2 x1.2).bind (fun x3 =>
  if x3.1 = 0 then
  ((f_M_is N 1 x3.2).bind (fun x4 =>
  match narOK 1 x4.1 with
  | true => some (x4.1, x4.2)
  | false => none))
  else
  ((f_M_isPlace N a3 x3.2).bind (fun x5 =>
  if x5.1 = 0 then
  ((f_M_is N 1 x5.2).bind (fun x6 =>
  match narOK 1 x6.1 with
  | true => some (x6.1, x6.2)
  | false => none))
  else
  (if (gI x5.2 68 49) = 20 then
  ((f_M_is N 4 x5.2).bind (fun x7 =>
  match narOK 1 x7.1 with
  | true => some (x7.1, x7.2)
  | false => none))
  else
  (if inB (gI x5.2 68 49) 20 = true then
  (let h8 : MH := sI x5.2 100 (iN (gI x5.2 68 49)) a1
  if inB (gI h8 68 49) 20 = true then
  (let h9 : MH := sI h8 101 (iN (gI h8 68 49)) a2
  if inB (gI h9 68 49) 20 = true then
  (let h10 : MH := sI h9 102 (iN (gI h9 68 49)) a3
  let h11 : MH := sI h10 68 49 ((gI h10 68 49) + 1)
  (f_M_is N 0 h11).bind (fun x12 =>
  match narOK 1 x12.1 with
  | true => some (x12.1, x12.2)
  | false => none))
  else none)
  else none)
  else none)))))))
def C_M_offset (N : Nat) : MC := (KDL, false, (fun _ => 0), jsB, (fun j => match Nat.beq j 167 with
    | true => w_M_is (f_M_is N)
    | false => match Nat.beq j 205 with
    | true => w_M_isMark (f_M_isMark N)
    | false => match Nat.beq j 209 with
    | true => w_M_isYear (f_M_isYear N)
    | false => match Nat.beq j 211 with
    | true => w_M_isPlace (f_M_isPlace N)
    | false => fun _ _ => none), (fun _ _ _ => none), (fun _ _ _ => none), (fun _ _ _ => none))
def D_M_offset (N : Nat) (n pc : Nat) (lv : ML) (st : List MV) (h : MH) : Option (Int32 × MH) :=
  match Nat.beq pc 0 with
  | true => (match lk lv 0, lk lv 1, lk lv 2, lk lv 3, st with
    | some (.inr (.inr (0, 12, 68))), some (.inl a1), some (.inl a2), some (.inl a3), [] => f_M_offset N a1 a2 a3 h
    | _, _, _, _, _ => none)
  | false => none
set_option maxRecDepth 1000000 in
theorem E_M_offset_0 (N : Nat) (n : Nat) (a1 : Int32) (a2 : Int32) (a3 : Int32) (h : MH) : seg (C_M_offset N) 4 1 rI T_M_offset [0] (fun q lv st h => match Nat.ble 1 q with
    | true => D_M_offset N n q lv st h
    | false => none) 400 true 0 [(0, .inr (.inr (0, 12, 68))), (1, .inl a1), (2, .inl a2), (3, .inl a3)] [] h = f_M_offset N a1 a2 a3 h := (rfl)
set_option maxRecDepth 1000000 in
theorem chk_M_offset : chkT 12 false prog_14_method_51_code T_M_offset = true := by decide +kernel
theorem mc_M_offset : mC 213 = prog_14_method_51_code := by rfl
theorem mx_M_offset : mL 213 = 4 ∧ mR 213 = some .boolean ∧ mK 213 = 1 ∧ (mN 213).cls = cN 12 := by decide +kernel
theorem hD_M_offset (N : Nat) {r : Int32 × MH} : ∀ n pc lv st h, D_M_offset N n pc lv st h = some r → ∃ lv', (∀ q ∈ lv', q ∈ lv) ∧ seg (C_M_offset N) 4 1 rI T_M_offset [0] (fun q lv st h => match Nat.ble (pc + 1) q with
    | true => D_M_offset N n q lv st h
    | false => none) 400 true pc lv' st h = some r := by
  intro n pc lv st h hf
  unfold D_M_offset at hf
  split at hf
  · rename_i hb
    have hb := Nat.eq_of_beq_eq_true hb
    subst hb
    split at hf
    · rename_i y0 y1 y2 e0 e1 e2 e3
      exact ⟨_, (sub_cons e0 (sub_cons e1 (sub_cons e2 (sub_cons e3 sub_nil)))), (E_M_offset_0 N n _ _ _ h).trans hf⟩
    · cases hf
  · skip
    cases hf
theorem hM_M_offset (N : Nat) {r : Int32 × MH} : ∀ n pc lv st h, D_M_offset N n pc lv st h = some r → pc < 89 := by
  intro n pc lv st h hf
  unfold D_M_offset at hf
  split at hf
  · rename_i hb
    rw [Nat.eq_of_beq_eq_true hb]
    decide
  · skip
    cases hf
theorem s_M_offset {l : Launch} {E : EV} {N : Nat} {as : List MV} {h : MH} {r : Int32 × MH} (hf : w_M_offset (f_M_offset N) as h = some r) : SndM l E false 1 213 as h (some (.inl r.1)) r.2 := by
  unfold w_M_offset at hf
  split at hf
  · obtain ⟨m1, m2, m3, m4⟩ := mx_M_offset
    refine snd_of (C := C_M_offset N) (own := 12) (rz := 1) (lim := 115) rI_eq m2 m4 pl_213 (TB_in _ cw_213 rfl) ⟨(fun _ => ⟨_, _, _, _, _, _, rfl, rfl, by rw [m4]; rfl⟩), (fun z => by rw [m3] at z; cases z)⟩ (fun z => by cases z) KDL_take rfl rfl (fun z => by cases z) (fun z => by cases z) (fun _ => rfl) (by rw [m1]; exact Nat.le_of_ble_eq_true rfl)
      (fun j as h x z => by
      dsimp only [C_M_offset] at z
      cases hb : Nat.beq j 167 with
      | true =>
        have hb := Nat.eq_of_beq_eq_true hb
        subst hb
        exact ⟨0, by decide, (fun z => by cases z), s_M_is z⟩
      | false =>
        rw [hb] at z
        dsimp only at z
        cases hb : Nat.beq j 205 with
        | true =>
          have hb := Nat.eq_of_beq_eq_true hb
          subst hb
          exact ⟨0, by decide, (fun z => by cases z), s_M_isMark z⟩
        | false =>
          rw [hb] at z
          dsimp only at z
          cases hb : Nat.beq j 209 with
          | true =>
            have hb := Nat.eq_of_beq_eq_true hb
            subst hb
            exact ⟨0, by decide, (fun z => by cases z), s_M_isYear z⟩
          | false =>
            rw [hb] at z
            dsimp only at z
            cases hb : Nat.beq j 211 with
            | true =>
              have hb := Nat.eq_of_beq_eq_true hb
              subst hb
              exact ⟨0, by decide, (fun z => by cases z), s_M_isPlace z⟩
            | false =>
              rw [hb] at z
              dsimp only at z
              cases z)
      (fun _ _ _ _ z => by cases z)
      (fun _ _ _ _ z => by cases z)
      (fun _ _ _ _ z => by cases z)
      (fun p e R s m args below meth c Q n0 F hret => ?_)
    rw [m1] at F hret ⊢
    rw [mc_M_offset] at F hret
    exact cuts_s (K := 400) (M := 89) (D := D_M_offset N) (B := fun _ _ _ _ _ => none) F hret (chkT_ok chk_M_offset) (hM_M_offset N) (fun _ _ _ _ _ z => by cases z) (hD_M_offset N) N 0 _ _ _ hf
  · cases hf
def T_M_asof : List (List (Option RW)) := [
  [some (.iload_n 1, 1, [1], 0, 0), some (.invokestatic 375, 3, [2, 210, 1, 0], 0, 0), none, none, some (.ifCond .ne 9, 3, [13], 0, 0), none, none, some (.aload_n 0, 1, [0], 0, 0), some (.iconst 1, 1, [], 1, 0), some (.invokevirtual 188, 3, [0, 167, 2, 0], 0, 0), none, none, some (.ireturn, 1, [], 0, 0), some (.aload_n 0, 1, [0], 0, 0), some (.iload_n 1, 1, [1], 0, 0), some (.putfield 102, 3, [12, 51, 0], 0, 0), none, none, some (.aload_n 0, 1, [0], 0, 0), some (.iconst 0, 1, [], 0, 0), some (.invokevirtual 188, 3, [0, 167, 2, 0], 0, 0), none, none, some (.ireturn, 1, [], 0, 0)]]
def f_M_asof (N : Nat) (a1 : Int32) (h : MH) : Option (Int32 × MH) :=
  (f_M_isDay N a1 h).bind (fun x1 =>
  if x1.1 = 0 then
  ((f_M_is N 1 x1.2).bind (fun x2 =>
  match narOK 1 x2.1 with
  | true => some (x2.1, x2.2)
  | false => none))
  else
  (let h3 : MH := sI x1.2 68 51 a1
  (f_M_is N 0 h3).bind (fun x4 =>
  match narOK 1 x4.1 with
  | true => some (x4.1, x4.2)
  | false => none)))
def C_M_asof (N : Nat) : MC := (KDL, false, (fun _ => 0), jsB, (fun j => match Nat.beq j 167 with
    | true => w_M_is (f_M_is N)
    | false => match Nat.beq j 210 with
    | true => w_M_isDay (f_M_isDay N)
    | false => fun _ _ => none), (fun _ _ _ => none), (fun _ _ _ => none), (fun _ _ _ => none))
def D_M_asof (N : Nat) (n pc : Nat) (lv : ML) (st : List MV) (h : MH) : Option (Int32 × MH) :=
  match Nat.beq pc 0 with
  | true => (match lk lv 0, lk lv 1, st with
    | some (.inr (.inr (0, 12, 68))), some (.inl a1), [] => f_M_asof N a1 h
    | _, _, _ => none)
  | false => none
set_option maxRecDepth 1000000 in
theorem E_M_asof_0 (N : Nat) (n : Nat) (a1 : Int32) (h : MH) : seg (C_M_asof N) 2 1 rI T_M_asof [0] (fun q lv st h => match Nat.ble 1 q with
    | true => D_M_asof N n q lv st h
    | false => none) 400 true 0 [(0, .inr (.inr (0, 12, 68))), (1, .inl a1)] [] h = f_M_asof N a1 h := (rfl)
set_option maxRecDepth 1000000 in
theorem chk_M_asof : chkT 12 false prog_14_method_52_code T_M_asof = true := by decide +kernel
theorem mc_M_asof : mC 214 = prog_14_method_52_code := by rfl
theorem mx_M_asof : mL 214 = 2 ∧ mR 214 = some .boolean ∧ mK 214 = 1 ∧ (mN 214).cls = cN 12 := by decide +kernel
theorem hD_M_asof (N : Nat) {r : Int32 × MH} : ∀ n pc lv st h, D_M_asof N n pc lv st h = some r → ∃ lv', (∀ q ∈ lv', q ∈ lv) ∧ seg (C_M_asof N) 2 1 rI T_M_asof [0] (fun q lv st h => match Nat.ble (pc + 1) q with
    | true => D_M_asof N n q lv st h
    | false => none) 400 true pc lv' st h = some r := by
  intro n pc lv st h hf
  unfold D_M_asof at hf
  split at hf
  · rename_i hb
    have hb := Nat.eq_of_beq_eq_true hb
    subst hb
    split at hf
    · rename_i y0 e0 e1
      exact ⟨_, (sub_cons e0 (sub_cons e1 sub_nil)), (E_M_asof_0 N n _ h).trans hf⟩
    · cases hf
  · skip
    cases hf
theorem hM_M_asof (N : Nat) {r : Int32 × MH} : ∀ n pc lv st h, D_M_asof N n pc lv st h = some r → pc < 24 := by
  intro n pc lv st h hf
  unfold D_M_asof at hf
  split at hf
  · rename_i hb
    rw [Nat.eq_of_beq_eq_true hb]
    decide
  · skip
    cases hf
theorem s_M_asof {l : Launch} {E : EV} {N : Nat} {as : List MV} {h : MH} {r : Int32 × MH} (hf : w_M_asof (f_M_asof N) as h = some r) : SndM l E false 1 214 as h (some (.inl r.1)) r.2 := by
  unfold w_M_asof at hf
  split at hf
  · obtain ⟨m1, m2, m3, m4⟩ := mx_M_asof
    refine snd_of (C := C_M_asof N) (own := 12) (rz := 1) (lim := 115) rI_eq m2 m4 pl_214 (TB_in _ cw_214 rfl) ⟨(fun _ => ⟨_, _, _, _, _, _, rfl, rfl, by rw [m4]; rfl⟩), (fun z => by rw [m3] at z; cases z)⟩ (fun z => by cases z) KDL_take rfl rfl (fun z => by cases z) (fun z => by cases z) (fun _ => rfl) (by rw [m1]; exact Nat.le_of_ble_eq_true rfl)
      (fun j as h x z => by
      dsimp only [C_M_asof] at z
      cases hb : Nat.beq j 167 with
      | true =>
        have hb := Nat.eq_of_beq_eq_true hb
        subst hb
        exact ⟨0, by decide, (fun z => by cases z), s_M_is z⟩
      | false =>
        rw [hb] at z
        dsimp only at z
        cases hb : Nat.beq j 210 with
        | true =>
          have hb := Nat.eq_of_beq_eq_true hb
          subst hb
          exact ⟨0, by decide, (fun z => by cases z), s_M_isDay z⟩
        | false =>
          rw [hb] at z
          dsimp only at z
          cases z)
      (fun _ _ _ _ z => by cases z)
      (fun _ _ _ _ z => by cases z)
      (fun _ _ _ _ z => by cases z)
      (fun p e R s m args below meth c Q n0 F hret => ?_)
    rw [m1] at F hret ⊢
    rw [mc_M_asof] at F hret
    exact cuts_s (K := 400) (M := 24) (D := D_M_asof N) (B := fun _ _ _ _ _ => none) F hret (chkT_ok chk_M_asof) (hM_M_asof N) (fun _ _ _ _ _ z => by cases z) (hD_M_asof N) N 0 _ _ _ hf
  · cases hf
def T_M_rowOf : List (List (Option RW)) := [
  [some (.aload_n 0, 1, [0], 0, 0), some (.getfield 354, 3, [12, 48, 0], 0, 0), none, none, some (.iconst 1, 1, [], 1, 0), some (.isub, 1, [], 0, 0), some (.istore_n 3, 1, [3], 0, 0), some (.iload_n 3, 1, [3], 0, 0), some (.ifCond .lt 44, 3, [52], 0, 0), none, none, some (.aload_n 0, 1, [0], 0, 0), some (.getfield 105, 3, [12, 52, 2, 1, 160, 27], 0, 0), none, none, some (.iload_n 3, 1, [3], 0, 0), some (.iaload, 1, [], 0, 0), some (.iload_n 1, 1, [1], 0, 0), some (.if_icmp .ne 28, 3, [46], 0, 0), none, none, some (.aload_n 0, 1, [0], 0, 0), some (.getfield 108, 3, [12, 53, 2, 1, 160, 28], 0, 0), none, none, some (.iload_n 3, 1, [3], 0, 0), some (.iaload, 1, [], 0, 0), some (.iload_n 2, 1, [2], 0, 0), some (.if_icmp .ne 18, 3, [46], 0, 0), none, none, some (.aload_n 0, 1, [0], 0, 0)],
  [some (.getfield 117, 3, [12, 56, 2, 1, 160, 31], 0, 0), none, none, some (.iload_n 3, 1, [3], 0, 0), some (.iaload, 1, [], 0, 0), some (.aload_n 0, 1, [0], 0, 0), some (.getfield 102, 3, [12, 51, 0], 0, 0), none, none, some (.if_icmp .gt 5, 3, [46], 0, 0), none, none, some (.iload_n 3, 1, [3], 0, 0), some (.ireturn, 1, [], 0, 0), some (.iinc 3 (-1), 3, [3], (-1), 0), none, none, some (.goto (-42), 3, [7], 0, 0), none, none, some (.iconst (-1), 1, [], (-1), 0), some (.ireturn, 1, [], 0, 0)]]
def F_M_rowOf_7 (N : Nat) (bk : (Int32 → Int32 → Int32 → MH → Option (Int32 × MH))) (a1 : Int32) (a2 : Int32) (a3 : Int32) (h : MH) : Option (Int32 × MH) :=
  if a3 < 0 then
  (some ((-1), h))
  else
  (if inB a3 160 = true then
  (if (gI h 95 (iN a3)) = a1 then
  (if inB a3 160 = true then
  (if (gI h 96 (iN a3)) = a2 then
  (if inB a3 160 = true then
  (if (gI h 68 51) < (gI h 99 (iN a3)) then
  (let v2 : Int32 := a3 + (-1)
  bk a1 a2 v2 h)
  else
  (some (a3, h)))
  else none)
  else
  (let v3 : Int32 := a3 + (-1)
  bk a1 a2 v3 h))
  else none)
  else
  (let v4 : Int32 := a3 + (-1)
  bk a1 a2 v4 h))
  else none)
def F_M_rowOf_0 (N : Nat) (bk : (Int32 → Int32 → Int32 → MH → Option (Int32 × MH))) (a1 : Int32) (a2 : Int32) (h : MH) : Option (Int32 × MH) :=
  let v1 : Int32 := (gI h 68 48) - 1
  F_M_rowOf_7 N bk a1 a2 v1 h
def L_M_rowOf (N : Nat) : Nat → (Int32 → Int32 → Int32 → MH → Option (Int32 × MH))
  | 0 => fun _ _ _ _ => none
  | n + 1 => F_M_rowOf_7 N (L_M_rowOf N n)
def f_M_rowOf (N : Nat) (a1 : Int32) (a2 : Int32) (h : MH) : Option (Int32 × MH) := F_M_rowOf_0 N (L_M_rowOf N N) a1 a2 h
def C_M_rowOf (N : Nat) : MC := (KDL, false, (fun _ => 0), jsB, (fun _ _ _ => none), (fun _ _ _ => none), (fun _ _ _ => none), (fun _ _ _ => none))
def D_M_rowOf (N : Nat) (n pc : Nat) (lv : ML) (st : List MV) (h : MH) : Option (Int32 × MH) :=
  match Nat.beq pc 0 with
  | true => (match lk lv 0, lk lv 1, lk lv 2, st with
    | some (.inr (.inr (0, 12, 68))), some (.inl a1), some (.inl a2), [] => F_M_rowOf_0 N (L_M_rowOf N n) a1 a2 h
    | _, _, _, _ => none)
  | false => match Nat.beq pc 7 with
  | true => (match lk lv 0, lk lv 1, lk lv 2, lk lv 3, st with
    | some (.inr (.inr (0, 12, 68))), some (.inl a1), some (.inl a2), some (.inl a3), [] => F_M_rowOf_7 N (L_M_rowOf N n) a1 a2 a3 h
    | _, _, _, _, _ => none)
  | false => none
def B_M_rowOf (N : Nat) (n pc : Nat) (lv : ML) (st : List MV) (h : MH) : Option (Int32 × MH) :=
  match Nat.beq pc 7 with
  | true => (match lk lv 0, lk lv 1, lk lv 2, lk lv 3, st with
    | some (.inr (.inr (0, 12, 68))), some (.inl a1), some (.inl a2), some (.inl a3), [] => ((L_M_rowOf N n)) a1 a2 a3 h
    | _, _, _, _, _ => none)
  | false => none
set_option maxRecDepth 1000000 in
theorem E_M_rowOf_0 (N : Nat) (n : Nat) (a1 : Int32) (a2 : Int32) (h : MH) : seg (C_M_rowOf N) 4 0 rI T_M_rowOf [0, 7] (fun q lv st h => match Nat.ble 1 q with
    | true => D_M_rowOf N n q lv st h
    | false => B_M_rowOf N n q lv st h) 400 true 0 [(0, .inr (.inr (0, 12, 68))), (1, .inl a1), (2, .inl a2)] [] h = F_M_rowOf_0 N (L_M_rowOf N n) a1 a2 h := (rfl)
set_option maxRecDepth 1000000 in
theorem E_M_rowOf_7 (N : Nat) (n : Nat) (a1 : Int32) (a2 : Int32) (a3 : Int32) (h : MH) : seg (C_M_rowOf N) 4 0 rI T_M_rowOf [0, 7] (fun q lv st h => match Nat.ble 8 q with
    | true => D_M_rowOf N n q lv st h
    | false => B_M_rowOf N n q lv st h) 400 true 7 [(0, .inr (.inr (0, 12, 68))), (1, .inl a1), (2, .inl a2), (3, .inl a3)] [] h = F_M_rowOf_7 N (L_M_rowOf N n) a1 a2 a3 h := (rfl)
set_option maxRecDepth 1000000 in
theorem chk_M_rowOf : chkT 12 false prog_14_method_53_code T_M_rowOf = true := by decide +kernel
theorem mc_M_rowOf : mC 215 = prog_14_method_53_code := by rfl
theorem mx_M_rowOf : mL 215 = 4 ∧ mR 215 = some .int ∧ mK 215 = 1 ∧ (mN 215).cls = cN 12 := by decide +kernel
theorem hD_M_rowOf (N : Nat) {r : Int32 × MH} : ∀ n pc lv st h, D_M_rowOf N n pc lv st h = some r → ∃ lv', (∀ q ∈ lv', q ∈ lv) ∧ seg (C_M_rowOf N) 4 0 rI T_M_rowOf [0, 7] (fun q lv st h => match Nat.ble (pc + 1) q with
    | true => D_M_rowOf N n q lv st h
    | false => B_M_rowOf N n q lv st h) 400 true pc lv' st h = some r := by
  intro n pc lv st h hf
  unfold D_M_rowOf at hf
  split at hf
  · rename_i hb
    have hb := Nat.eq_of_beq_eq_true hb
    subst hb
    split at hf
    · rename_i y0 y1 e0 e1 e2
      exact ⟨_, (sub_cons e0 (sub_cons e1 (sub_cons e2 sub_nil))), (E_M_rowOf_0 N n _ _ h).trans hf⟩
    · cases hf
  · skip
    split at hf
    · rename_i hb
      have hb := Nat.eq_of_beq_eq_true hb
      subst hb
      split at hf
      · rename_i y0 y1 y2 e0 e1 e2 e3
        exact ⟨_, (sub_cons e0 (sub_cons e1 (sub_cons e2 (sub_cons e3 sub_nil)))), (E_M_rowOf_7 N n _ _ _ h).trans hf⟩
      · cases hf
    · skip
      cases hf
theorem hM_M_rowOf (N : Nat) {r : Int32 × MH} : ∀ n pc lv st h, D_M_rowOf N n pc lv st h = some r → pc < 54 := by
  intro n pc lv st h hf
  unfold D_M_rowOf at hf
  split at hf
  · rename_i hb
    rw [Nat.eq_of_beq_eq_true hb]
    decide
  · skip
    split at hf
    · rename_i hb
      rw [Nat.eq_of_beq_eq_true hb]
      decide
    · skip
      cases hf
theorem hB_M_rowOf (N : Nat) {r : Int32 × MH} : ∀ n pc lv st h, B_M_rowOf N n pc lv st h = some r → ∃ k, n = k + 1 ∧ D_M_rowOf N k pc lv st h = some r := by
  intro n pc lv st h hf
  unfold B_M_rowOf at hf
  split at hf
  · rename_i hb
    have hb := Nat.eq_of_beq_eq_true hb
    subst hb
    cases n with
    | zero =>
      split at hf
      · cases hf
      · cases hf
    | succ k =>
      refine ⟨k, rfl, ?_⟩
      exact hf
  · skip
    cases hf
theorem s_M_rowOf {l : Launch} {E : EV} {N : Nat} {as : List MV} {h : MH} {r : Int32 × MH} (hf : w_M_rowOf (f_M_rowOf N) as h = some r) : SndM l E false 0 215 as h (some (.inl r.1)) r.2 := by
  unfold w_M_rowOf at hf
  split at hf
  · obtain ⟨m1, m2, m3, m4⟩ := mx_M_rowOf
    refine snd_of (C := C_M_rowOf N) (own := 12) (rz := 0) (lim := 115) rI_eq m2 m4 pl_215 (TB_in _ cw_215 rfl) ⟨(fun _ => ⟨_, _, _, _, _, _, rfl, rfl, by rw [m4]; rfl⟩), (fun z => by rw [m3] at z; cases z)⟩ (fun z => by cases z) KDL_take rfl rfl (fun z => by cases z) (fun z => by cases z) (fun _ => rfl) (by rw [m1]; exact Nat.le_of_ble_eq_true rfl)
      (fun _ _ _ _ z => by cases z)
      (fun _ _ _ _ z => by cases z)
      (fun _ _ _ _ z => by cases z)
      (fun _ _ _ _ z => by cases z)
      (fun p e R s m args below meth c Q n0 F hret => ?_)
    rw [m1] at F hret ⊢
    rw [mc_M_rowOf] at F hret
    exact cuts_s (K := 400) (M := 54) (D := D_M_rowOf N) (B := B_M_rowOf N) F hret (chkT_ok chk_M_rowOf) (hM_M_rowOf N) (hB_M_rowOf N) (hD_M_rowOf N) N 0 _ _ _ hf
  · cases hf
def T_M_valueOf : List (List (Option RW)) := [
  [some (.aload_n 0, 1, [0], 0, 0), some (.getfield 111, 3, [12, 54, 2, 1, 160, 29], 0, 0), none, none, some (.iload_n 1, 1, [1], 0, 0), some (.iaload, 1, [], 0, 0), some (.istore_n 2, 1, [2], 0, 0), some (.iconst 0, 1, [], 0, 0), some (.istore_n 3, 1, [3], 0, 0), some (.iload_n 3, 1, [3], 0, 0), some (.aload_n 0, 1, [0], 0, 0), some (.getfield 357, 3, [12, 49, 0], 0, 0), none, none, some (.if_icmp .ge 48, 3, [62], 0, 0), none, none, some (.aload_n 0, 1, [0], 0, 0), some (.getfield 120, 3, [12, 57, 2, 1, 20, 32], 0, 0), none, none, some (.iload_n 3, 1, [3], 0, 0), some (.iaload, 1, [], 0, 0), some (.aload_n 0, 1, [0], 0, 0), some (.getfield 105, 3, [12, 52, 2, 1, 160, 27], 0, 0), none, none, some (.iload_n 1, 1, [1], 0, 0), some (.iaload, 1, [], 0, 0), some (.if_icmp .ne 27, 3, [56], 0, 0), none, none],
  [some (.aload_n 0, 1, [0], 0, 0), some (.getfield 123, 3, [12, 58, 2, 1, 20, 33], 0, 0), none, none, some (.iload_n 3, 1, [3], 0, 0), some (.iaload, 1, [], 0, 0), some (.aload_n 0, 1, [0], 0, 0), some (.getfield 108, 3, [12, 53, 2, 1, 160, 28], 0, 0), none, none, some (.iload_n 1, 1, [1], 0, 0), some (.iaload, 1, [], 0, 0), some (.if_icmp .gt 12, 3, [56], 0, 0), none, none, some (.iload_n 2, 1, [2], 0, 0), some (.aload_n 0, 1, [0], 0, 0), some (.getfield 126, 3, [12, 59, 2, 1, 20, 34], 0, 0), none, none, some (.iload_n 3, 1, [3], 0, 0), some (.iaload, 1, [], 0, 0), some (.isub, 1, [], 0, 0), some (.istore_n 2, 1, [2], 0, 0), some (.iinc 3 1, 3, [3], 1, 0), none, none, some (.goto (-50), 3, [9], 0, 0), none, none, some (.iload_n 2, 1, [2], 0, 0), some (.ireturn, 1, [], 0, 0)]]
def F_M_valueOf_9 (N : Nat) (bk : (Int32 → Int32 → Int32 → MH → Option (Int32 × MH))) (a1 : Int32) (a2 : Int32) (a3 : Int32) (h : MH) : Option (Int32 × MH) :=
  if (gI h 68 49) ≤ a3 then
  (some (a2, h))
  else
  (if inB a3 20 = true then
  (if inB a1 160 = true then
  (if (gI h 100 (iN a3)) = (gI h 95 (iN a1)) then
  (if inB a3 20 = true then
  (if inB a1 160 = true then
  (if (gI h 96 (iN a1)) < (gI h 101 (iN a3)) then
  (let v2 : Int32 := a3 + 1
  bk a1 a2 v2 h)
  else
  (if inB a3 20 = true then
  (let v3 : Int32 := a2 - (gI h 102 (iN a3))
  let v4 : Int32 := a3 + 1
  bk a1 v3 v4 h)
  else none))
  else none)
  else none)
  else
  (let v5 : Int32 := a3 + 1
  bk a1 a2 v5 h))
  else none)
  else none)
def F_M_valueOf_0 (N : Nat) (bk : (Int32 → Int32 → Int32 → MH → Option (Int32 × MH))) (a1 : Int32) (h : MH) : Option (Int32 × MH) :=
  if inB a1 160 = true then
  (let v1 : Int32 := gI h 97 (iN a1)
  F_M_valueOf_9 N bk a1 v1 0 h)
  else none
def L_M_valueOf (N : Nat) : Nat → (Int32 → Int32 → Int32 → MH → Option (Int32 × MH))
  | 0 => fun _ _ _ _ => none
  | n + 1 => F_M_valueOf_9 N (L_M_valueOf N n)
def f_M_valueOf (N : Nat) (a1 : Int32) (h : MH) : Option (Int32 × MH) := F_M_valueOf_0 N (L_M_valueOf N N) a1 h
def C_M_valueOf (N : Nat) : MC := (KDL, false, (fun _ => 0), jsB, (fun _ _ _ => none), (fun _ _ _ => none), (fun _ _ _ => none), (fun _ _ _ => none))
def D_M_valueOf (N : Nat) (n pc : Nat) (lv : ML) (st : List MV) (h : MH) : Option (Int32 × MH) :=
  match Nat.beq pc 0 with
  | true => (match lk lv 0, lk lv 1, st with
    | some (.inr (.inr (0, 12, 68))), some (.inl a1), [] => F_M_valueOf_0 N (L_M_valueOf N n) a1 h
    | _, _, _ => none)
  | false => match Nat.beq pc 9 with
  | true => (match lk lv 0, lk lv 1, lk lv 2, lk lv 3, st with
    | some (.inr (.inr (0, 12, 68))), some (.inl a1), some (.inl a2), some (.inl a3), [] => F_M_valueOf_9 N (L_M_valueOf N n) a1 a2 a3 h
    | _, _, _, _, _ => none)
  | false => none
def B_M_valueOf (N : Nat) (n pc : Nat) (lv : ML) (st : List MV) (h : MH) : Option (Int32 × MH) :=
  match Nat.beq pc 9 with
  | true => (match lk lv 0, lk lv 1, lk lv 2, lk lv 3, st with
    | some (.inr (.inr (0, 12, 68))), some (.inl a1), some (.inl a2), some (.inl a3), [] => ((L_M_valueOf N n)) a1 a2 a3 h
    | _, _, _, _, _ => none)
  | false => none
set_option maxRecDepth 1000000 in
theorem E_M_valueOf_0 (N : Nat) (n : Nat) (a1 : Int32) (h : MH) : seg (C_M_valueOf N) 4 0 rI T_M_valueOf [0, 9] (fun q lv st h => match Nat.ble 1 q with
    | true => D_M_valueOf N n q lv st h
    | false => B_M_valueOf N n q lv st h) 400 true 0 [(0, .inr (.inr (0, 12, 68))), (1, .inl a1)] [] h = F_M_valueOf_0 N (L_M_valueOf N n) a1 h := (rfl)
set_option maxRecDepth 1000000 in
theorem E_M_valueOf_9 (N : Nat) (n : Nat) (a1 : Int32) (a2 : Int32) (a3 : Int32) (h : MH) : seg (C_M_valueOf N) 4 0 rI T_M_valueOf [0, 9] (fun q lv st h => match Nat.ble 10 q with
    | true => D_M_valueOf N n q lv st h
    | false => B_M_valueOf N n q lv st h) 400 true 9 [(0, .inr (.inr (0, 12, 68))), (1, .inl a1), (2, .inl a2), (3, .inl a3)] [] h = F_M_valueOf_9 N (L_M_valueOf N n) a1 a2 a3 h := (rfl)
set_option maxRecDepth 1000000 in
theorem chk_M_valueOf : chkT 12 false prog_14_method_54_code T_M_valueOf = true := by decide +kernel
theorem mc_M_valueOf : mC 216 = prog_14_method_54_code := by rfl
theorem mx_M_valueOf : mL 216 = 4 ∧ mR 216 = some .int ∧ mK 216 = 1 ∧ (mN 216).cls = cN 12 := by decide +kernel
theorem hD_M_valueOf (N : Nat) {r : Int32 × MH} : ∀ n pc lv st h, D_M_valueOf N n pc lv st h = some r → ∃ lv', (∀ q ∈ lv', q ∈ lv) ∧ seg (C_M_valueOf N) 4 0 rI T_M_valueOf [0, 9] (fun q lv st h => match Nat.ble (pc + 1) q with
    | true => D_M_valueOf N n q lv st h
    | false => B_M_valueOf N n q lv st h) 400 true pc lv' st h = some r := by
  intro n pc lv st h hf
  unfold D_M_valueOf at hf
  split at hf
  · rename_i hb
    have hb := Nat.eq_of_beq_eq_true hb
    subst hb
    split at hf
    · rename_i y0 e0 e1
      exact ⟨_, (sub_cons e0 (sub_cons e1 sub_nil)), (E_M_valueOf_0 N n _ h).trans hf⟩
    · cases hf
  · skip
    split at hf
    · rename_i hb
      have hb := Nat.eq_of_beq_eq_true hb
      subst hb
      split at hf
      · rename_i y0 y1 y2 e0 e1 e2 e3
        exact ⟨_, (sub_cons e0 (sub_cons e1 (sub_cons e2 (sub_cons e3 sub_nil)))), (E_M_valueOf_9 N n _ _ _ h).trans hf⟩
      · cases hf
    · skip
      cases hf
theorem hM_M_valueOf (N : Nat) {r : Int32 × MH} : ∀ n pc lv st h, D_M_valueOf N n pc lv st h = some r → pc < 64 := by
  intro n pc lv st h hf
  unfold D_M_valueOf at hf
  split at hf
  · rename_i hb
    rw [Nat.eq_of_beq_eq_true hb]
    decide
  · skip
    split at hf
    · rename_i hb
      rw [Nat.eq_of_beq_eq_true hb]
      decide
    · skip
      cases hf
theorem hB_M_valueOf (N : Nat) {r : Int32 × MH} : ∀ n pc lv st h, B_M_valueOf N n pc lv st h = some r → ∃ k, n = k + 1 ∧ D_M_valueOf N k pc lv st h = some r := by
  intro n pc lv st h hf
  unfold B_M_valueOf at hf
  split at hf
  · rename_i hb
    have hb := Nat.eq_of_beq_eq_true hb
    subst hb
    cases n with
    | zero =>
      split at hf
      · cases hf
      · cases hf
    | succ k =>
      refine ⟨k, rfl, ?_⟩
      exact hf
  · skip
    cases hf
theorem s_M_valueOf {l : Launch} {E : EV} {N : Nat} {as : List MV} {h : MH} {r : Int32 × MH} (hf : w_M_valueOf (f_M_valueOf N) as h = some r) : SndM l E false 0 216 as h (some (.inl r.1)) r.2 := by
  unfold w_M_valueOf at hf
  split at hf
  · obtain ⟨m1, m2, m3, m4⟩ := mx_M_valueOf
    refine snd_of (C := C_M_valueOf N) (own := 12) (rz := 0) (lim := 115) rI_eq m2 m4 pl_216 (TB_in _ cw_216 rfl) ⟨(fun _ => ⟨_, _, _, _, _, _, rfl, rfl, by rw [m4]; rfl⟩), (fun z => by rw [m3] at z; cases z)⟩ (fun z => by cases z) KDL_take rfl rfl (fun z => by cases z) (fun z => by cases z) (fun _ => rfl) (by rw [m1]; exact Nat.le_of_ble_eq_true rfl)
      (fun _ _ _ _ z => by cases z)
      (fun _ _ _ _ z => by cases z)
      (fun _ _ _ _ z => by cases z)
      (fun _ _ _ _ z => by cases z)
      (fun p e R s m args below meth c Q n0 F hret => ?_)
    rw [m1] at F hret ⊢
    rw [mc_M_valueOf] at F hret
    exact cuts_s (K := 400) (M := 64) (D := D_M_valueOf N) (B := B_M_valueOf N) F hret (chkT_ok chk_M_valueOf) (hM_M_valueOf N) (hB_M_valueOf N) (hD_M_valueOf N) N 0 _ _ _ hf
  · cases hf
def T_M_value : List (List (Option RW)) := [
  [some (.aload_n 0, 1, [0], 0, 0), some (.iload_n 1, 1, [1], 0, 0), some (.invokevirtual 366, 3, [0, 205, 2, 0], 0, 0), none, none, some (.ifCond .eq 19, 3, [24], 0, 0), none, none, some (.iload_n 2, 1, [2], 0, 0), some (.invokestatic 369, 3, [2, 209, 1, 0], 0, 0), none, none, some (.ifCond .eq 12, 3, [24], 0, 0), none, none, some (.iload_n 3, 1, [3], 0, 0), some (.ifCond .lt 8, 3, [24], 0, 0), none, none, some (.iload_n 3, 1, [3], 0, 0), some (.iconst 1, 1, [], 1, 0), some (.if_icmp .le 9, 3, [30], 0, 0), none, none, some (.aload_n 0, 1, [0], 0, 0), some (.iconst 1, 1, [], 1, 0), some (.invokevirtual 342, 3, [0, 168, 2, 0], 0, 0), none, none, some (.ireturn, 1, [], 0, 0), some (.aload_n 0, 1, [0], 0, 0), some (.iload_n 1, 1, [1], 0, 0)],
  [some (.iload_n 2, 1, [2], 0, 0), some (.invokevirtual 381, 3, [0, 215, 3, 0], 0, 0), none, none, some (.istore 4, 2, [4], 0, 0), none, some (.iload 4, 2, [4], 0, 0), none, some (.iconst (-1), 1, [], (-1), 0), some (.if_icmp .ne 12, 3, [53], 0, 0), none, none, some (.aload_n 0, 1, [0], 0, 0), some (.bipush 6, 2, [], 6, 0), none, some (.invokevirtual 342, 3, [0, 168, 2, 0], 0, 0), none, none, some (.goto 27, 3, [77], 0, 0), none, none, some (.aload_n 0, 1, [0], 0, 0), some (.iload_n 3, 1, [3], 0, 0), some (.ifCond .ne 12, 3, [67], 0, 0), none, none, some (.aload_n 0, 1, [0], 0, 0), some (.iload 4, 2, [4], 0, 0), none, some (.invokevirtual 384, 3, [0, 216, 2, 0], 0, 0), none, none],
  [some (.goto 10, 3, [74], 0, 0), none, none, some (.aload_n 0, 1, [0], 0, 0), some (.getfield 114, 3, [12, 55, 2, 1, 160, 30], 0, 0), none, none, some (.iload 4, 2, [4], 0, 0), none, some (.iaload, 1, [], 0, 0), some (.invokevirtual 180, 3, [0, 169, 2, 0], 0, 0), none, none, some (.ireturn, 1, [], 0, 0)]]
def f_M_value (N : Nat) (a1 : Int32) (a2 : Int32) (a3 : Int32) (h : MH) : Option (Int32 × MH) :=
  (f_M_isMark N a1 h).bind (fun x1 =>
  if x1.1 = 0 then
  ((f_M_refuse N 1 x1.2).bind (fun x2 =>
  some (x2.1, x2.2)))
  else
  ((f_M_isYear N a2 x1.2).bind (fun x3 =>
  if x3.1 = 0 then
  ((f_M_refuse N 1 x3.2).bind (fun x4 =>
  some (x4.1, x4.2)))
  else
  (if a3 < 0 then
  ((f_M_refuse N 1 x3.2).bind (fun x5 =>
  some (x5.1, x5.2)))
  else
  (if a3 ≤ 1 then
  ((f_M_rowOf N a1 a2 x3.2).bind (fun x6 =>
  if x6.1 = ((-1)) then
  ((f_M_refuse N 6 x6.2).bind (fun x7 =>
  some (x7.1, x7.2)))
  else
  (if a3 = 0 then
  ((f_M_valueOf N x6.1 x6.2).bind (fun x8 =>
  (f_M_gives N x8.1 x8.2).bind (fun x9 =>
  some (x9.1, x9.2))))
  else
  (if inB x6.1 160 = true then
  ((f_M_gives N (gI x6.2 98 (iN x6.1)) x6.2).bind (fun x10 =>
  some (x10.1, x10.2)))
  else none))))
  else
  ((f_M_refuse N 1 x3.2).bind (fun x11 =>
  some (x11.1, x11.2))))))))
def C_M_value (N : Nat) : MC := (KDL, false, (fun _ => 0), jsB, (fun j => match Nat.beq j 168 with
    | true => w_M_refuse (f_M_refuse N)
    | false => match Nat.beq j 169 with
    | true => w_M_gives (f_M_gives N)
    | false => match Nat.beq j 205 with
    | true => w_M_isMark (f_M_isMark N)
    | false => match Nat.beq j 209 with
    | true => w_M_isYear (f_M_isYear N)
    | false => match Nat.beq j 215 with
    | true => w_M_rowOf (f_M_rowOf N)
    | false => match Nat.beq j 216 with
    | true => w_M_valueOf (f_M_valueOf N)
    | false => fun _ _ => none), (fun _ _ _ => none), (fun _ _ _ => none), (fun _ _ _ => none))
def D_M_value (N : Nat) (n pc : Nat) (lv : ML) (st : List MV) (h : MH) : Option (Int32 × MH) :=
  match Nat.beq pc 0 with
  | true => (match lk lv 0, lk lv 1, lk lv 2, lk lv 3, st with
    | some (.inr (.inr (0, 12, 68))), some (.inl a1), some (.inl a2), some (.inl a3), [] => f_M_value N a1 a2 a3 h
    | _, _, _, _, _ => none)
  | false => none
set_option maxRecDepth 1000000 in
theorem E_M_value_0 (N : Nat) (n : Nat) (a1 : Int32) (a2 : Int32) (a3 : Int32) (h : MH) : seg (C_M_value N) 5 0 rI T_M_value [0] (fun q lv st h => match Nat.ble 1 q with
    | true => D_M_value N n q lv st h
    | false => none) 400 true 0 [(0, .inr (.inr (0, 12, 68))), (1, .inl a1), (2, .inl a2), (3, .inl a3)] [] h = f_M_value N a1 a2 a3 h := (rfl)
set_option maxRecDepth 1000000 in
theorem chk_M_value : chkT 12 false prog_14_method_55_code T_M_value = true := by decide +kernel
theorem mc_M_value : mC 217 = prog_14_method_55_code := by rfl
theorem mx_M_value : mL 217 = 5 ∧ mR 217 = some .int ∧ mK 217 = 1 ∧ (mN 217).cls = cN 12 := by decide +kernel
theorem hD_M_value (N : Nat) {r : Int32 × MH} : ∀ n pc lv st h, D_M_value N n pc lv st h = some r → ∃ lv', (∀ q ∈ lv', q ∈ lv) ∧ seg (C_M_value N) 5 0 rI T_M_value [0] (fun q lv st h => match Nat.ble (pc + 1) q with
    | true => D_M_value N n q lv st h
    | false => none) 400 true pc lv' st h = some r := by
  intro n pc lv st h hf
  unfold D_M_value at hf
  split at hf
  · rename_i hb
    have hb := Nat.eq_of_beq_eq_true hb
    subst hb
    split at hf
    · rename_i y0 y1 y2 e0 e1 e2 e3
      exact ⟨_, (sub_cons e0 (sub_cons e1 (sub_cons e2 (sub_cons e3 sub_nil)))), (E_M_value_0 N n _ _ _ h).trans hf⟩
    · cases hf
  · skip
    cases hf
theorem hM_M_value (N : Nat) {r : Int32 × MH} : ∀ n pc lv st h, D_M_value N n pc lv st h = some r → pc < 78 := by
  intro n pc lv st h hf
  unfold D_M_value at hf
  split at hf
  · rename_i hb
    rw [Nat.eq_of_beq_eq_true hb]
    decide
  · skip
    cases hf
theorem s_M_value {l : Launch} {E : EV} {N : Nat} {as : List MV} {h : MH} {r : Int32 × MH} (hf : w_M_value (f_M_value N) as h = some r) : SndM l E false 1 217 as h (some (.inl r.1)) r.2 := by
  unfold w_M_value at hf
  split at hf
  · obtain ⟨m1, m2, m3, m4⟩ := mx_M_value
    refine snd_of (C := C_M_value N) (own := 12) (rz := 0) (lim := 115) rI_eq m2 m4 pl_217 (TB_in _ cw_217 rfl) ⟨(fun _ => ⟨_, _, _, _, _, _, rfl, rfl, by rw [m4]; rfl⟩), (fun z => by rw [m3] at z; cases z)⟩ (fun z => by cases z) KDL_take rfl rfl (fun z => by cases z) (fun z => by cases z) (fun _ => rfl) (by rw [m1]; exact Nat.le_of_ble_eq_true rfl)
      (fun j as h x z => by
      dsimp only [C_M_value] at z
      cases hb : Nat.beq j 168 with
      | true =>
        have hb := Nat.eq_of_beq_eq_true hb
        subst hb
        exact ⟨0, by decide, (fun z => by cases z), s_M_refuse z⟩
      | false =>
        rw [hb] at z
        dsimp only at z
        cases hb : Nat.beq j 169 with
        | true =>
          have hb := Nat.eq_of_beq_eq_true hb
          subst hb
          exact ⟨0, by decide, (fun z => by cases z), s_M_gives z⟩
        | false =>
          rw [hb] at z
          dsimp only at z
          cases hb : Nat.beq j 205 with
          | true =>
            have hb := Nat.eq_of_beq_eq_true hb
            subst hb
            exact ⟨0, by decide, (fun z => by cases z), s_M_isMark z⟩
          | false =>
            rw [hb] at z
            dsimp only at z
            cases hb : Nat.beq j 209 with
            | true =>
              have hb := Nat.eq_of_beq_eq_true hb
              subst hb
              exact ⟨0, by decide, (fun z => by cases z), s_M_isYear z⟩
            | false =>
              rw [hb] at z
              dsimp only at z
              cases hb : Nat.beq j 215 with
              | true =>
                have hb := Nat.eq_of_beq_eq_true hb
                subst hb
                exact ⟨0, by decide, (fun z => by cases z), s_M_rowOf z⟩
              | false =>
                rw [hb] at z
                dsimp only at z
                cases hb : Nat.beq j 216 with
                | true =>
                  have hb := Nat.eq_of_beq_eq_true hb
                  subst hb
                  exact ⟨0, by decide, (fun z => by cases z), s_M_valueOf z⟩
                | false =>
                  rw [hb] at z
                  dsimp only at z
                  cases z)
      (fun _ _ _ _ z => by cases z)
      (fun _ _ _ _ z => by cases z)
      (fun _ _ _ _ z => by cases z)
      (fun p e R s m args below meth c Q n0 F hret => ?_)
    rw [m1] at F hret ⊢
    rw [mc_M_value] at F hret
    exact cuts_s (K := 400) (M := 78) (D := D_M_value N) (B := fun _ _ _ _ _ => none) F hret (chkT_ok chk_M_value) (hM_M_value N) (fun _ _ _ _ _ z => by cases z) (hD_M_value N) N 0 _ _ _ hf
  · cases hf
