def T_Reader_readMoves : List (List (Option RW)) := [
  [some (.aload_n 0, 1, [0], 0, 0), some (.invokevirtual 65, 3, [0, 57, 1, 3], 0, 0), none, none, some (.aload_n 0, 1, [0], 0, 0), some (.invokevirtual 183, 3, [0, 69, 1, 0], 0, 0), none, none, some (.istore_n 2, 1, [2], 0, 0), some (.iload_n 2, 1, [2], 0, 0), some (.ifCond .ge 5, 3, [15], 0, 0), none, none, some (.iconst 0, 1, [], 0, 0), some (.ireturn, 1, [], 0, 0), some (.aload_n 0, 1, [0], 0, 0), some (.invokevirtual 65, 3, [0, 57, 1, 3], 0, 0), none, none, some (.aload_n 0, 1, [0], 0, 0), some (.invokevirtual 129, 3, [0, 64, 1, 0], 0, 0), none, none, some (.ifCond .ne 13, 3, [36], 0, 0), none, none, some (.aload_n 0, 1, [0], 0, 0), some (.iconst 2, 1, [], 2, 0), some (.aload_n 0, 1, [0], 0, 0), some (.getfield 25, 3, [7, 4, 0], 0, 0), none, none],
  [some (.invokevirtual 85, 3, [0, 56, 3, 0], 0, 0), none, none, some (.ireturn, 1, [], 0, 0), some (.aload_n 0, 1, [0], 0, 0), some (.getfield 50, 3, [7, 10, 2, 0, 5, 8], 0, 0), none, none, some (.aload_n 0, 1, [0], 0, 0), some (.getfield 9, 3, [7, 0, 2, 3, 600, 1], 0, 0), none, none, some (.aload_n 0, 1, [0], 0, 0), some (.getfield 25, 3, [7, 4, 0], 0, 0), none, none, some (.aload_n 0, 1, [0], 0, 0), some (.getfield 28, 3, [7, 5, 0], 0, 0), none, none, some (.invokevirtual 132, 3, [1, 43, 4, 0], 0, 0), none, none, some (.istore_n 3, 1, [3], 0, 0), some (.iload_n 3, 1, [3], 0, 0), some (.ifCond .lt 15, 3, [72], 0, 0), none, none, some (.aload_n 0, 1, [0], 0, 0), some (.getfield 50, 3, [7, 10, 2, 0, 5, 8], 0, 0), none, none],
  [some (.getfield 136, 3, [5, 3, 2, 1, 14, 4], 0, 0), none, none, some (.iload_n 3, 1, [3], 0, 0), some (.iaload, 1, [], 0, 0), some (.ifCond .le 13, 3, [82], 0, 0), none, none, some (.aload_n 0, 1, [0], 0, 0), some (.iconst 3, 1, [], 3, 0), some (.aload_n 0, 1, [0], 0, 0), some (.getfield 25, 3, [7, 4, 0], 0, 0), none, none, some (.invokevirtual 85, 3, [0, 56, 3, 0], 0, 0), none, none, some (.ireturn, 1, [], 0, 0), some (.aload_n 0, 1, [0], 0, 0), some (.getfield 50, 3, [7, 10, 2, 0, 5, 8], 0, 0), none, none, some (.getfield 143, 3, [5, 2, 2, 1, 14, 3], 0, 0), none, none, some (.iload_n 3, 1, [3], 0, 0), some (.iaload, 1, [], 0, 0), some (.istore 4, 2, [4], 0, 0), none, some (.aload_n 0, 1, [0], 0, 0), some (.invokevirtual 65, 3, [0, 57, 1, 3], 0, 0), none],
  [none, some (.aload_n 0, 1, [0], 0, 0), some (.getfield 25, 3, [7, 4, 0], 0, 0), none, none, some (.istore 5, 2, [5], 0, 0), none, some (.aload_n 0, 1, [0], 0, 0), some (.iconst 0, 1, [], 0, 0), some (.invokevirtual 191, 3, [0, 76, 2, 1], 0, 0), none, none, some (.lstore 6, 2, [6], 0, 0), none, some (.aload_n 0, 1, [0], 0, 0), some (.getfield 34, 3, [7, 7, 0], 0, 0), none, none, some (.ifCond .ne 10, 3, [124], 0, 0), none, none, some (.aload_n 0, 1, [0], 0, 0), some (.invokevirtual 169, 3, [0, 67, 1, 0], 0, 0), none, none, some (.ifCond .ne 5, 3, [126], 0, 0), none, none, some (.iconst 0, 1, [], 0, 0), some (.ireturn, 1, [], 0, 0), some (.iload_n 2, 1, [2], 0, 0), some (.bipush 8, 2, [], 8, 0)],
  [none, some (.imul, 1, [], 0, 0), some (.iload 4, 2, [4], 0, 0), none, some (.iadd, 1, [], 0, 0), some (.istore 8, 2, [8], 0, 0), none, some (.aload_n 0, 1, [0], 0, 0), some (.getfield 54, 3, [7, 11, 1], 0, 0), none, none, some (.iload 8, 2, [8], 0, 0), none, some (.lshr, 1, [], 0, 0), some (.lconst 1, 1, [], 0, 1), some (.land, 1, [], 0, 0), some (.lconst 0, 1, [], 0, 0), some (.lcmp, 1, [], 0, 0), some (.ifCond .eq 11, 3, [157], 0, 0), none, none, some (.aload_n 0, 1, [0], 0, 0), some (.bipush 6, 2, [], 6, 0), none, some (.iload_n 1, 1, [1], 0, 0), some (.invokevirtual 85, 3, [0, 56, 3, 0], 0, 0), none, none, some (.ireturn, 1, [], 0, 0), some (.lload 6, 2, [6], 0, 0), none, some (.ldc2_w 195, 3, [], 0, (-9))],
  [none, none, some (.lcmp, 1, [], 0, 0), some (.ifCond .lt 12, 3, [175], 0, 0), none, none, some (.lload 6, 2, [6], 0, 0), none, some (.ldc2_w 197, 3, [], 0, 9), none, none, some (.lcmp, 1, [], 0, 0), some (.ifCond .le 11, 3, [183], 0, 0), none, none, some (.aload_n 0, 1, [0], 0, 0), some (.iconst 5, 1, [], 5, 0), some (.iload 5, 2, [5], 0, 0), none, some (.invokevirtual 85, 3, [0, 56, 3, 0], 0, 0), none, none, some (.ireturn, 1, [], 0, 0), some (.aload_n 0, 1, [0], 0, 0), some (.dup, 1, [], 0, 0), some (.getfield 54, 3, [7, 11, 1], 0, 0), none, none, some (.lconst 1, 1, [], 0, 1), some (.iload 8, 2, [8], 0, 0), none, some (.lshl, 1, [], 0, 0)],
  [some (.lor, 1, [], 0, 0), some (.putfield 54, 3, [7, 11, 1], 0, 0), none, none, some (.aload_n 0, 1, [0], 0, 0), some (.getfield 43, 3, [7, 9, 3, 0, 2], 0, 0), none, none, some (.getfield 199, 3, [2, 2, 2, 1, 48, 1], 0, 0), none, none, some (.iload 8, 2, [8], 0, 0), none, some (.lload 6, 2, [6], 0, 0), none, some (.l2i, 1, [], 0, 0), some (.iastore, 1, [], 0, 0), some (.iconst 1, 1, [], 1, 0), some (.ireturn, 1, [], 0, 0)]]
def f_Reader_readMoves (N : Nat) (a1 : Int32) (h : MH) : Option (Int32 × MH) :=
  (f_Reader_advance N h).bind (fun x1 =>
  (f_Reader_seeCell N x1).bind (fun x2 =>
  if 0 ≤ x2.1 then
  ((f_Reader_advance N x2.2).bind (fun x3 =>
  (f_Reader_isName N x3).bind (fun x4 =>
  if x4.1 = 0 then
  ((f_Reader_fail N 2 (gI x4.2 3 4) x4.2).bind (fun x5 =>
  match narOK 1 x5.1 with
  | true => some (x5.1, x5.2)
  | false => none))
  else
  ((f_Names_find N (gI x4.2 3 4) (gI x4.2 3 5) x4.2).bind (fun x6 =>
  if x6.1 < 0 then
  ((f_Reader_fail N 3 (gI x6.2 3 4) x6.2).bind (fun x7 =>
  match narOK 1 x7.1 with
  | true => some (x7.1, x7.2)
  | false => none))
  else
  (if inB x6.1 14 = true then
  (if (gI x6.2 15 (iN x6.1)) ≤ 0 then
  (if inB x6.1 14 = true then
  (let v8 : Int32 := gI x6.2 14 (iN x6.1)
  (f_Reader_advance N x6.2).bind (fun x9 =>
  let v10 : Int32 := gI x9 3 4
  (f_Reader_readSum N 8 0 x9).bind (fun x11 =>
  if (gI x11.2 3 7) = 0 then
  ((f_Reader_seesEnd N x11.2).bind (fun x12 =>
  if x12.1 = 0 then
  (some (0, x12.2))
  else
  (let v13 : Int32 := (x2.1 * 8) + v8
  if (lg_cmp (((gJ x12.2 3 11) >>> (Int32.toInt64 v13 &&& 63)) &&& 1) 0) = 0 then
  (if (lg_cmp x11.1 ((-9))) < 0 then
  ((f_Reader_fail N 5 v10 x12.2).bind (fun x14 =>
  match narOK 1 x14.1 with
  | true => some (x14.1, x14.2)
  | false => none))
  else
  (if (lg_cmp x11.1 9) ≤ 0 then
  (let h15 : MH := sJ x12.2 3 11 ((gJ x12.2 3 11) ||| (1 <<< (Int32.toInt64 v13 &&& 63)))
  if inB v13 48 = true then
  (let h16 : MH := sI h15 ((gR h15 3 9) + 1) (iN v13) (Int64.toInt32 x11.1)
  some (1, h16))
  else none)
  else
  ((f_Reader_fail N 5 v10 x12.2).bind (fun x17 =>
  match narOK 1 x17.1 with
  | true => some (x17.1, x17.2)
  | false => none))))
  else
  ((f_Reader_fail N 6 a1 x12.2).bind (fun x18 =>
  match narOK 1 x18.1 with
  | true => some (x18.1, x18.2)
  | false => none)))))
  else
  (some (0, x11.2)))))
  else none)
  else
  ((f_Reader_fail N 3 (gI x6.2 3 4) x6.2).bind (fun x19 =>
  match narOK 1 x19.1 with
  | true => some (x19.1, x19.2)
  | false => none)))
  else none))))))
  else
  (some (0, x2.2))))
def C_Reader_readMoves (N : Nat) : MC := (KDL, false, (fun _ => 0), jsB, (fun j => match Nat.beq j 43 with
    | true => w_Names_find (f_Names_find N)
    | false => match Nat.beq j 56 with
    | true => w_Reader_fail (f_Reader_fail N)
    | false => match Nat.beq j 64 with
    | true => w_Reader_isName (f_Reader_isName N)
    | false => match Nat.beq j 67 with
    | true => w_Reader_seesEnd (f_Reader_seesEnd N)
    | false => match Nat.beq j 69 with
    | true => w_Reader_seeCell (f_Reader_seeCell N)
    | false => fun _ _ => none), (fun j => match Nat.beq j 76 with
    | true => w_Reader_readSum (f_Reader_readSum N 8)
    | false => fun _ _ => none), (fun _ _ _ => none), (fun j => match Nat.beq j 57 with
    | true => w_Reader_advance (f_Reader_advance N)
    | false => fun _ _ => none))
def D_Reader_readMoves (N : Nat) (n pc : Nat) (lv : ML) (st : List MV) (h : MH) : Option (Int32 × MH) :=
  match Nat.beq pc 0 with
  | true => (match lk lv 0, lk lv 1, st with
    | some (.inr (.inr (0, 7, 3))), some (.inl a1), [] => f_Reader_readMoves N a1 h
    | _, _, _ => none)
  | false => none
set_option maxRecDepth 1000000 in
theorem E_Reader_readMoves_0 (N : Nat) (n : Nat) (a1 : Int32) (h : MH) : seg (C_Reader_readMoves N) 9 1 rI T_Reader_readMoves [0] (fun q lv st h => match Nat.ble 1 q with
    | true => D_Reader_readMoves N n q lv st h
    | false => none) 400 true 0 [(0, .inr (.inr (0, 7, 3))), (1, .inl a1)] [] h = f_Reader_readMoves N a1 h := (rfl)
set_option maxRecDepth 1000000 in
theorem chk_Reader_readMoves : chkT 7 false prog_9_method_24_code T_Reader_readMoves = true := by decide +kernel
theorem mc_Reader_readMoves : mC 74 = prog_9_method_24_code := by rfl
theorem mx_Reader_readMoves : mL 74 = 9 ∧ mR 74 = some .boolean ∧ mK 74 = 1 ∧ (mN 74).cls = cN 7 := by decide +kernel
theorem hD_Reader_readMoves (N : Nat) {r : Int32 × MH} : ∀ n pc lv st h, D_Reader_readMoves N n pc lv st h = some r → ∃ lv', (∀ q ∈ lv', q ∈ lv) ∧ seg (C_Reader_readMoves N) 9 1 rI T_Reader_readMoves [0] (fun q lv st h => match Nat.ble (pc + 1) q with
    | true => D_Reader_readMoves N n q lv st h
    | false => none) 400 true pc lv' st h = some r := by
  intro n pc lv st h hf
  unfold D_Reader_readMoves at hf
  split at hf
  · rename_i hb
    have hb := Nat.eq_of_beq_eq_true hb
    subst hb
    split at hf
    · rename_i y0 e0 e1
      exact ⟨_, (sub_cons e0 (sub_cons e1 sub_nil)), (E_Reader_readMoves_0 N n _ h).trans hf⟩
    · cases hf
  · skip
    cases hf
theorem hM_Reader_readMoves (N : Nat) {r : Int32 × MH} : ∀ n pc lv st h, D_Reader_readMoves N n pc lv st h = some r → pc < 211 := by
  intro n pc lv st h hf
  unfold D_Reader_readMoves at hf
  split at hf
  · rename_i hb
    rw [Nat.eq_of_beq_eq_true hb]
    decide
  · skip
    cases hf
theorem s_Reader_readMoves {l : Launch} {E : EV} {N : Nat} {as : List MV} {h : MH} {r : Int32 × MH} (hf : w_Reader_readMoves (f_Reader_readMoves N) as h = some r) : SndM l E false 30 74 as h (some (.inl r.1)) r.2 := by
  unfold w_Reader_readMoves at hf
  split at hf
  · obtain ⟨m1, m2, m3, m4⟩ := mx_Reader_readMoves
    refine snd_of (C := C_Reader_readMoves N) (own := 7) (rz := 1) (lim := 115) rI_eq m2 m4 pl_74 (TB_in _ cw_74 rfl) ⟨(fun _ => ⟨_, _, _, _, _, _, rfl, rfl, by rw [m4]; rfl⟩), (fun z => by rw [m3] at z; cases z)⟩ (fun z => by cases z) KDL_take rfl rfl (fun z => by cases z) (fun z => by cases z) (fun _ => rfl) (by rw [m1]; exact Nat.le_of_ble_eq_true rfl)
      (fun j as h x z => by
      dsimp only [C_Reader_readMoves] at z
      cases hb : Nat.beq j 43 with
      | true =>
        have hb := Nat.eq_of_beq_eq_true hb
        subst hb
        exact ⟨1, by decide, (fun z => by cases z), s_Names_find z⟩
      | false =>
        rw [hb] at z
        dsimp only at z
        cases hb : Nat.beq j 56 with
        | true =>
          have hb := Nat.eq_of_beq_eq_true hb
          subst hb
          exact ⟨0, by decide, (fun z => by cases z), s_Reader_fail z⟩
        | false =>
          rw [hb] at z
          dsimp only at z
          cases hb : Nat.beq j 64 with
          | true =>
            have hb := Nat.eq_of_beq_eq_true hb
            subst hb
            exact ⟨5, by decide, (fun z => by cases z), s_Reader_isName z⟩
          | false =>
            rw [hb] at z
            dsimp only at z
            cases hb : Nat.beq j 67 with
            | true =>
              have hb := Nat.eq_of_beq_eq_true hb
              subst hb
              exact ⟨1, by decide, (fun z => by cases z), s_Reader_seesEnd z⟩
            | false =>
              rw [hb] at z
              dsimp only at z
              cases hb : Nat.beq j 69 with
              | true =>
                have hb := Nat.eq_of_beq_eq_true hb
                subst hb
                exact ⟨6, by decide, (fun z => by cases z), s_Reader_seeCell z⟩
              | false =>
                rw [hb] at z
                dsimp only at z
                cases z)
      (fun j as h x z => by
      dsimp only [C_Reader_readMoves] at z
      cases hb : Nat.beq j 76 with
      | true =>
        have hb := Nat.eq_of_beq_eq_true hb
        subst hb
        exact ⟨29, by decide, (fun z => by cases z), s_Reader_readSum 8 z⟩
      | false =>
        rw [hb] at z
        dsimp only at z
        cases z)
      (fun _ _ _ _ z => by cases z)
      (fun j as h x z => by
      dsimp only [C_Reader_readMoves] at z
      cases hb : Nat.beq j 57 with
      | true =>
        have hb := Nat.eq_of_beq_eq_true hb
        subst hb
        exact ⟨2, by decide, (fun z => by cases z), s_Reader_advance z⟩
      | false =>
        rw [hb] at z
        dsimp only at z
        cases z)
      (fun p e R s m args below meth c Q n0 F hret => ?_)
    rw [m1] at F hret ⊢
    rw [mc_Reader_readMoves] at F hret
    exact cuts_s (K := 400) (M := 211) (D := D_Reader_readMoves N) (B := fun _ _ _ _ _ => none) F hret (chkT_ok chk_Reader_readMoves) (hM_Reader_readMoves N) (fun _ _ _ _ _ z => by cases z) (hD_Reader_readMoves N) N 0 _ _ _ hf
  · cases hf
def T_Reader_readStuck : List (List (Option RW)) := [
  [some (.aload_n 0, 1, [0], 0, 0), some (.invokevirtual 65, 3, [0, 57, 1, 3], 0, 0), none, none, some (.aload_n 0, 1, [0], 0, 0), some (.invokevirtual 183, 3, [0, 69, 1, 0], 0, 0), none, none, some (.istore_n 2, 1, [2], 0, 0), some (.iload_n 2, 1, [2], 0, 0), some (.ifCond .ge 5, 3, [15], 0, 0), none, none, some (.iconst 0, 1, [], 0, 0), some (.ireturn, 1, [], 0, 0), some (.aload_n 0, 1, [0], 0, 0), some (.invokevirtual 65, 3, [0, 57, 1, 3], 0, 0), none, none, some (.aload_n 0, 1, [0], 0, 0), some (.ldc 117, 2, [7], 0, 0), none, some (.invokevirtual 164, 3, [0, 65, 2, 0], 0, 0), none, none, some (.ifCond .eq 13, 3, [38], 0, 0), none, none, some (.aload_n 0, 1, [0], 0, 0), some (.iconst 0, 1, [], 0, 0), some (.bipush 100, 2, [], 100, 0), none],
  [some (.invokevirtual 140, 3, [0, 66, 3, 0], 0, 0), none, none, some (.ifCond .ne 5, 3, [40], 0, 0), none, none, some (.iconst 0, 1, [], 0, 0), some (.ireturn, 1, [], 0, 0), some (.aload_n 0, 1, [0], 0, 0), some (.getfield 31, 3, [7, 6, 0], 0, 0), none, none, some (.istore_n 3, 1, [3], 0, 0), some (.aload_n 0, 1, [0], 0, 0), some (.invokevirtual 65, 3, [0, 57, 1, 3], 0, 0), none, none, some (.aload_n 0, 1, [0], 0, 0), some (.ldc 119, 2, [8], 0, 0), none, some (.invokevirtual 164, 3, [0, 65, 2, 0], 0, 0), none, none, some (.ifCond .eq 13, 3, [68], 0, 0), none, none, some (.aload_n 0, 1, [0], 0, 0), some (.iload_n 3, 1, [3], 0, 0), some (.bipush 100, 2, [], 100, 0), none, some (.invokevirtual 140, 3, [0, 66, 3, 0], 0, 0), none],
  [none, some (.ifCond .ne 5, 3, [70], 0, 0), none, none, some (.iconst 0, 1, [], 0, 0), some (.ireturn, 1, [], 0, 0), some (.aload_n 0, 1, [0], 0, 0), some (.getfield 31, 3, [7, 6, 0], 0, 0), none, none, some (.istore 4, 2, [4], 0, 0), none, some (.aload_n 0, 1, [0], 0, 0), some (.invokevirtual 65, 3, [0, 57, 1, 3], 0, 0), none, none, some (.aload_n 0, 1, [0], 0, 0), some (.invokevirtual 169, 3, [0, 67, 1, 0], 0, 0), none, none, some (.ifCond .ne 5, 3, [89], 0, 0), none, none, some (.iconst 0, 1, [], 0, 0), some (.ireturn, 1, [], 0, 0), some (.aload_n 0, 1, [0], 0, 0), some (.getfield 58, 3, [7, 12, 0], 0, 0), none, none, some (.iload_n 2, 1, [2], 0, 0), some (.ishr, 1, [], 0, 0), some (.iconst 1, 1, [], 1, 0)],
  [some (.iand, 1, [], 0, 0), some (.ifCond .eq 11, 3, [108], 0, 0), none, none, some (.aload_n 0, 1, [0], 0, 0), some (.bipush 6, 2, [], 6, 0), none, some (.iload_n 1, 1, [1], 0, 0), some (.invokevirtual 85, 3, [0, 56, 3, 0], 0, 0), none, none, some (.ireturn, 1, [], 0, 0), some (.aload_n 0, 1, [0], 0, 0), some (.dup, 1, [], 0, 0), some (.getfield 58, 3, [7, 12, 0], 0, 0), none, none, some (.iconst 1, 1, [], 1, 0), some (.iload_n 2, 1, [2], 0, 0), some (.ishl, 1, [], 0, 0), some (.ior, 1, [], 0, 0), some (.putfield 58, 3, [7, 12, 0], 0, 0), none, none, some (.aload_n 0, 1, [0], 0, 0), some (.getfield 43, 3, [7, 9, 3, 0, 2], 0, 0), none, none, some (.getfield 202, 3, [2, 5, 2, 1, 6, 4], 0, 0), none, none, some (.iload_n 2, 1, [2], 0, 0)],
  [some (.iload_n 3, 1, [3], 0, 0), some (.iastore, 1, [], 0, 0), some (.aload_n 0, 1, [0], 0, 0), some (.getfield 43, 3, [7, 9, 3, 0, 2], 0, 0), none, none, some (.getfield 205, 3, [2, 6, 2, 1, 6, 5], 0, 0), none, none, some (.iload_n 2, 1, [2], 0, 0), some (.iload 4, 2, [4], 0, 0), none, some (.iastore, 1, [], 0, 0), some (.iconst 1, 1, [], 1, 0), some (.ireturn, 1, [], 0, 0)]]
def f_Reader_readStuck (N : Nat) (a1 : Int32) (h : MH) : Option (Int32 × MH) :=
  (f_Reader_advance N h).bind (fun x1 =>
  (f_Reader_seeCell N x1).bind (fun x2 =>
  if 0 ≤ x2.1 then
  ((f_Reader_advance N x2.2).bind (fun x3 =>
  (f_Reader_passWord N 7 x3).bind (fun x4 =>
  if x4.1 = 0 then
  (some (0, x4.2))
  else
  ((f_Reader_seesNumber N 0 100 x4.2).bind (fun x5 =>
  if x5.1 = 0 then
  (some (0, x5.2))
  else
  (let v6 : Int32 := gI x5.2 3 6
  (f_Reader_advance N x5.2).bind (fun x7 =>
  (f_Reader_passWord N 8 x7).bind (fun x8 =>
  if x8.1 = 0 then
  (some (0, x8.2))
  else
  ((f_Reader_seesNumber N v6 100 x8.2).bind (fun x9 =>
  if x9.1 = 0 then
  (some (0, x9.2))
  else
  (let v10 : Int32 := gI x9.2 3 6
  (f_Reader_advance N x9.2).bind (fun x11 =>
  (f_Reader_seesEnd N x11).bind (fun x12 =>
  if x12.1 = 0 then
  (some (0, x12.2))
  else
  (if ((((gI x12.2 3 12)) >>> (x2.1 &&& 31)) &&& 1) = 0 then
  (let h13 : MH := sI x12.2 3 12 ((gI x12.2 3 12) ||| ((1 : Int32) <<< (x2.1 &&& 31)))
  if inB x2.1 6 = true then
  (let h14 : MH := sI h13 ((gR h13 3 9) + 4) (iN x2.1) v6
  if inB x2.1 6 = true then
  (let h15 : MH := sI h14 ((gR h14 3 9) + 5) (iN x2.1) v10
  some (1, h15))
  else none)
  else none)
  else
  ((f_Reader_fail N 6 a1 x12.2).bind (fun x16 =>
  match narOK 1 x16.1 with
  | true => some (x16.1, x16.2)
  | false => none))))))))))))))))
  else
  (some (0, x2.2))))
def C_Reader_readStuck (N : Nat) : MC := (KDL, false, (fun _ => 0), jsB, (fun j => match Nat.beq j 56 with
    | true => w_Reader_fail (f_Reader_fail N)
    | false => match Nat.beq j 65 with
    | true => w_Reader_passWord (f_Reader_passWord N)
    | false => match Nat.beq j 66 with
    | true => w_Reader_seesNumber (f_Reader_seesNumber N)
    | false => match Nat.beq j 67 with
    | true => w_Reader_seesEnd (f_Reader_seesEnd N)
    | false => match Nat.beq j 69 with
    | true => w_Reader_seeCell (f_Reader_seeCell N)
    | false => fun _ _ => none), (fun _ _ _ => none), (fun _ _ _ => none), (fun j => match Nat.beq j 57 with
    | true => w_Reader_advance (f_Reader_advance N)
    | false => fun _ _ => none))
def D_Reader_readStuck (N : Nat) (n pc : Nat) (lv : ML) (st : List MV) (h : MH) : Option (Int32 × MH) :=
  match Nat.beq pc 0 with
  | true => (match lk lv 0, lk lv 1, st with
    | some (.inr (.inr (0, 7, 3))), some (.inl a1), [] => f_Reader_readStuck N a1 h
    | _, _, _ => none)
  | false => none
set_option maxRecDepth 1000000 in
theorem E_Reader_readStuck_0 (N : Nat) (n : Nat) (a1 : Int32) (h : MH) : seg (C_Reader_readStuck N) 5 1 rI T_Reader_readStuck [0] (fun q lv st h => match Nat.ble 1 q with
    | true => D_Reader_readStuck N n q lv st h
    | false => none) 400 true 0 [(0, .inr (.inr (0, 7, 3))), (1, .inl a1)] [] h = f_Reader_readStuck N a1 h := (rfl)
set_option maxRecDepth 1000000 in
theorem chk_Reader_readStuck : chkT 7 false prog_9_method_25_code T_Reader_readStuck = true := by decide +kernel
theorem mc_Reader_readStuck : mC 75 = prog_9_method_25_code := by rfl
theorem mx_Reader_readStuck : mL 75 = 5 ∧ mR 75 = some .boolean ∧ mK 75 = 1 ∧ (mN 75).cls = cN 7 := by decide +kernel
theorem hD_Reader_readStuck (N : Nat) {r : Int32 × MH} : ∀ n pc lv st h, D_Reader_readStuck N n pc lv st h = some r → ∃ lv', (∀ q ∈ lv', q ∈ lv) ∧ seg (C_Reader_readStuck N) 5 1 rI T_Reader_readStuck [0] (fun q lv st h => match Nat.ble (pc + 1) q with
    | true => D_Reader_readStuck N n q lv st h
    | false => none) 400 true pc lv' st h = some r := by
  intro n pc lv st h hf
  unfold D_Reader_readStuck at hf
  split at hf
  · rename_i hb
    have hb := Nat.eq_of_beq_eq_true hb
    subst hb
    split at hf
    · rename_i y0 e0 e1
      exact ⟨_, (sub_cons e0 (sub_cons e1 sub_nil)), (E_Reader_readStuck_0 N n _ h).trans hf⟩
    · cases hf
  · skip
    cases hf
theorem hM_Reader_readStuck (N : Nat) {r : Int32 × MH} : ∀ n pc lv st h, D_Reader_readStuck N n pc lv st h = some r → pc < 143 := by
  intro n pc lv st h hf
  unfold D_Reader_readStuck at hf
  split at hf
  · rename_i hb
    rw [Nat.eq_of_beq_eq_true hb]
    decide
  · skip
    cases hf
theorem s_Reader_readStuck {l : Launch} {E : EV} {N : Nat} {as : List MV} {h : MH} {r : Int32 × MH} (hf : w_Reader_readStuck (f_Reader_readStuck N) as h = some r) : SndM l E false 7 75 as h (some (.inl r.1)) r.2 := by
  unfold w_Reader_readStuck at hf
  split at hf
  · obtain ⟨m1, m2, m3, m4⟩ := mx_Reader_readStuck
    refine snd_of (C := C_Reader_readStuck N) (own := 7) (rz := 1) (lim := 115) rI_eq m2 m4 pl_75 (TB_in _ cw_75 rfl) ⟨(fun _ => ⟨_, _, _, _, _, _, rfl, rfl, by rw [m4]; rfl⟩), (fun z => by rw [m3] at z; cases z)⟩ (fun z => by cases z) KDL_take rfl rfl (fun z => by cases z) (fun z => by cases z) (fun _ => rfl) (by rw [m1]; exact Nat.le_of_ble_eq_true rfl)
      (fun j as h x z => by
      dsimp only [C_Reader_readStuck] at z
      cases hb : Nat.beq j 56 with
      | true =>
        have hb := Nat.eq_of_beq_eq_true hb
        subst hb
        exact ⟨0, by decide, (fun z => by cases z), s_Reader_fail z⟩
      | false =>
        rw [hb] at z
        dsimp only at z
        cases hb : Nat.beq j 65 with
        | true =>
          have hb := Nat.eq_of_beq_eq_true hb
          subst hb
          exact ⟨5, by decide, (fun z => by cases z), s_Reader_passWord z⟩
        | false =>
          rw [hb] at z
          dsimp only at z
          cases hb : Nat.beq j 66 with
          | true =>
            have hb := Nat.eq_of_beq_eq_true hb
            subst hb
            exact ⟨1, by decide, (fun z => by cases z), s_Reader_seesNumber z⟩
          | false =>
            rw [hb] at z
            dsimp only at z
            cases hb : Nat.beq j 67 with
            | true =>
              have hb := Nat.eq_of_beq_eq_true hb
              subst hb
              exact ⟨1, by decide, (fun z => by cases z), s_Reader_seesEnd z⟩
            | false =>
              rw [hb] at z
              dsimp only at z
              cases hb : Nat.beq j 69 with
              | true =>
                have hb := Nat.eq_of_beq_eq_true hb
                subst hb
                exact ⟨6, by decide, (fun z => by cases z), s_Reader_seeCell z⟩
              | false =>
                rw [hb] at z
                dsimp only at z
                cases z)
      (fun _ _ _ _ z => by cases z)
      (fun _ _ _ _ z => by cases z)
      (fun j as h x z => by
      dsimp only [C_Reader_readStuck] at z
      cases hb : Nat.beq j 57 with
      | true =>
        have hb := Nat.eq_of_beq_eq_true hb
        subst hb
        exact ⟨2, by decide, (fun z => by cases z), s_Reader_advance z⟩
      | false =>
        rw [hb] at z
        dsimp only at z
        cases z)
      (fun p e R s m args below meth c Q n0 F hret => ?_)
    rw [m1] at F hret ⊢
    rw [mc_Reader_readStuck] at F hret
    exact cuts_s (K := 400) (M := 143) (D := D_Reader_readStuck N) (B := fun _ _ _ _ _ => none) F hret (chkT_ok chk_Reader_readStuck) (hM_Reader_readStuck N) (fun _ _ _ _ _ z => by cases z) (hD_Reader_readStuck N) N 0 _ _ _ hf
  · cases hf
def T_Reader_readPart : List (List (Option RW)) := [
  [some (.aload_n 0, 1, [0], 0, 0), some (.getfield 25, 3, [7, 4, 0], 0, 0), none, none, some (.istore_n 1, 1, [1], 0, 0), some (.aload_n 0, 1, [0], 0, 0), some (.ldc 99, 2, [0], 0, 0), none, some (.invokevirtual 101, 3, [0, 63, 2, 0], 0, 0), none, none, some (.ifCond .eq 8, 3, [19], 0, 0), none, none, some (.aload_n 0, 1, [0], 0, 0), some (.invokevirtual 146, 3, [0, 71, 1, 0], 0, 0), none, none, some (.ireturn, 1, [], 0, 0), some (.aload_n 0, 1, [0], 0, 0), some (.ldc 109, 2, [3], 0, 0), none, some (.invokevirtual 101, 3, [0, 63, 2, 0], 0, 0), none, none, some (.ifCond .eq 8, 3, [33], 0, 0), none, none, some (.aload_n 0, 1, [0], 0, 0), some (.invokevirtual 149, 3, [0, 72, 1, 0], 0, 0), none, none],
  [some (.ireturn, 1, [], 0, 0), some (.aload_n 0, 1, [0], 0, 0), some (.ldc 111, 2, [4], 0, 0), none, some (.invokevirtual 101, 3, [0, 63, 2, 0], 0, 0), none, none, some (.ifCond .eq 9, 3, [48], 0, 0), none, none, some (.aload_n 0, 1, [0], 0, 0), some (.iload_n 1, 1, [1], 0, 0), some (.invokevirtual 152, 3, [0, 73, 2, 0], 0, 0), none, none, some (.ireturn, 1, [], 0, 0), some (.aload_n 0, 1, [0], 0, 0), some (.ldc 113, 2, [5], 0, 0), none, some (.invokevirtual 101, 3, [0, 63, 2, 0], 0, 0), none, none, some (.ifCond .eq 9, 3, [63], 0, 0), none, none, some (.aload_n 0, 1, [0], 0, 0), some (.iload_n 1, 1, [1], 0, 0), some (.invokevirtual 155, 3, [0, 74, 2, 0], 0, 0), none, none, some (.ireturn, 1, [], 0, 0), some (.aload_n 0, 1, [0], 0, 0)],
  [some (.ldc 115, 2, [6], 0, 0), none, some (.invokevirtual 101, 3, [0, 63, 2, 0], 0, 0), none, none, some (.ifCond .eq 9, 3, [78], 0, 0), none, none, some (.aload_n 0, 1, [0], 0, 0), some (.iload_n 1, 1, [1], 0, 0), some (.invokevirtual 158, 3, [0, 75, 2, 0], 0, 0), none, none, some (.ireturn, 1, [], 0, 0), some (.aload_n 0, 1, [0], 0, 0), some (.iconst 2, 1, [], 2, 0), some (.aload_n 0, 1, [0], 0, 0), some (.getfield 25, 3, [7, 4, 0], 0, 0), none, none, some (.invokevirtual 85, 3, [0, 56, 3, 0], 0, 0), none, none, some (.ireturn, 1, [], 0, 0)]]
def f_Reader_readPart (N : Nat) (h : MH) : Option (Int32 × MH) :=
  let v1 : Int32 := gI h 3 4
  (f_Reader_isWord N 0 h).bind (fun x2 =>
  if x2.1 = 0 then
  ((f_Reader_isWord N 3 x2.2).bind (fun x3 =>
  if x3.1 = 0 then
  ((f_Reader_isWord N 4 x3.2).bind (fun x4 =>
  if x4.1 = 0 then
  ((f_Reader_isWord N 5 x4.2).bind (fun x5 =>
  if x5.1 = 0 then
  ((f_Reader_isWord N 6 x5.2).bind (fun x6 =>
  if x6.1 = 0 then
  ((f_Reader_fail N 2 (gI x6.2 3 4) x6.2).bind (fun x7 =>
  match narOK 1 x7.1 with
  | true => some (x7.1, x7.2)
  | false => none))
  else
  ((f_Reader_readStuck N v1 x6.2).bind (fun x8 =>
  match narOK 1 x8.1 with
  | true => some (x8.1, x8.2)
  | false => none))))
  else
  ((f_Reader_readMoves N v1 x5.2).bind (fun x9 =>
  match narOK 1 x9.1 with
  | true => some (x9.1, x9.2)
  | false => none))))
  else
  ((f_Reader_readNear N v1 x4.2).bind (fun x10 =>
  match narOK 1 x10.1 with
  | true => some (x10.1, x10.2)
  | false => none))))
  else
  ((f_Reader_readMark N x3.2).bind (fun x11 =>
  match narOK 1 x11.1 with
  | true => some (x11.1, x11.2)
  | false => none))))
  else
  ((f_Reader_readSheet N x2.2).bind (fun x12 =>
  match narOK 1 x12.1 with
  | true => some (x12.1, x12.2)
  | false => none)))
def C_Reader_readPart (N : Nat) : MC := (KDL, false, (fun _ => 0), jsB, (fun j => match Nat.beq j 56 with
    | true => w_Reader_fail (f_Reader_fail N)
    | false => match Nat.beq j 63 with
    | true => w_Reader_isWord (f_Reader_isWord N)
    | false => match Nat.beq j 71 with
    | true => w_Reader_readSheet (f_Reader_readSheet N)
    | false => match Nat.beq j 72 with
    | true => w_Reader_readMark (f_Reader_readMark N)
    | false => match Nat.beq j 73 with
    | true => w_Reader_readNear (f_Reader_readNear N)
    | false => match Nat.beq j 74 with
    | true => w_Reader_readMoves (f_Reader_readMoves N)
    | false => match Nat.beq j 75 with
    | true => w_Reader_readStuck (f_Reader_readStuck N)
    | false => fun _ _ => none), (fun _ _ _ => none), (fun _ _ _ => none), (fun _ _ _ => none))
def D_Reader_readPart (N : Nat) (n pc : Nat) (lv : ML) (st : List MV) (h : MH) : Option (Int32 × MH) :=
  match Nat.beq pc 0 with
  | true => (match lk lv 0, st with
    | some (.inr (.inr (0, 7, 3))), [] => f_Reader_readPart N h
    | _, _ => none)
  | false => none
set_option maxRecDepth 1000000 in
theorem E_Reader_readPart_0 (N : Nat) (n : Nat) (h : MH) : seg (C_Reader_readPart N) 2 1 rI T_Reader_readPart [0] (fun q lv st h => match Nat.ble 1 q with
    | true => D_Reader_readPart N n q lv st h
    | false => none) 400 true 0 [(0, .inr (.inr (0, 7, 3)))] [] h = f_Reader_readPart N h := (rfl)
set_option maxRecDepth 1000000 in
theorem chk_Reader_readPart : chkT 7 false prog_9_method_20_code T_Reader_readPart = true := by decide +kernel
theorem mc_Reader_readPart : mC 70 = prog_9_method_20_code := by rfl
theorem mx_Reader_readPart : mL 70 = 2 ∧ mR 70 = some .boolean ∧ mK 70 = 1 ∧ (mN 70).cls = cN 7 := by decide +kernel
theorem hD_Reader_readPart (N : Nat) {r : Int32 × MH} : ∀ n pc lv st h, D_Reader_readPart N n pc lv st h = some r → ∃ lv', (∀ q ∈ lv', q ∈ lv) ∧ seg (C_Reader_readPart N) 2 1 rI T_Reader_readPart [0] (fun q lv st h => match Nat.ble (pc + 1) q with
    | true => D_Reader_readPart N n q lv st h
    | false => none) 400 true pc lv' st h = some r := by
  intro n pc lv st h hf
  unfold D_Reader_readPart at hf
  split at hf
  · rename_i hb
    have hb := Nat.eq_of_beq_eq_true hb
    subst hb
    split at hf
    · rename_i e0
      exact ⟨_, (sub_cons e0 sub_nil), (E_Reader_readPart_0 N n h).trans hf⟩
    · cases hf
  · skip
    cases hf
theorem hM_Reader_readPart (N : Nat) {r : Int32 × MH} : ∀ n pc lv st h, D_Reader_readPart N n pc lv st h = some r → pc < 88 := by
  intro n pc lv st h hf
  unfold D_Reader_readPart at hf
  split at hf
  · rename_i hb
    rw [Nat.eq_of_beq_eq_true hb]
    decide
  · skip
    cases hf
theorem s_Reader_readPart {l : Launch} {E : EV} {N : Nat} {as : List MV} {h : MH} {r : Int32 × MH} (hf : w_Reader_readPart (f_Reader_readPart N) as h = some r) : SndM l E false 31 70 as h (some (.inl r.1)) r.2 := by
  unfold w_Reader_readPart at hf
  split at hf
  · obtain ⟨m1, m2, m3, m4⟩ := mx_Reader_readPart
    refine snd_of (C := C_Reader_readPart N) (own := 7) (rz := 1) (lim := 115) rI_eq m2 m4 pl_70 (TB_in _ cw_70 rfl) ⟨(fun _ => ⟨_, _, _, _, _, _, rfl, rfl, by rw [m4]; rfl⟩), (fun z => by rw [m3] at z; cases z)⟩ (fun z => by cases z) KDL_take rfl rfl (fun z => by cases z) (fun z => by cases z) (fun _ => rfl) (by rw [m1]; exact Nat.le_of_ble_eq_true rfl)
      (fun j as h x z => by
      dsimp only [C_Reader_readPart] at z
      cases hb : Nat.beq j 56 with
      | true =>
        have hb := Nat.eq_of_beq_eq_true hb
        subst hb
        exact ⟨0, by decide, (fun z => by cases z), s_Reader_fail z⟩
      | false =>
        rw [hb] at z
        dsimp only at z
        cases hb : Nat.beq j 63 with
        | true =>
          have hb := Nat.eq_of_beq_eq_true hb
          subst hb
          exact ⟨4, by decide, (fun z => by cases z), s_Reader_isWord z⟩
        | false =>
          rw [hb] at z
          dsimp only at z
          cases hb : Nat.beq j 71 with
          | true =>
            have hb := Nat.eq_of_beq_eq_true hb
            subst hb
            exact ⟨7, by decide, (fun z => by cases z), s_Reader_readSheet z⟩
          | false =>
            rw [hb] at z
            dsimp only at z
            cases hb : Nat.beq j 72 with
            | true =>
              have hb := Nat.eq_of_beq_eq_true hb
              subst hb
              exact ⟨7, by decide, (fun z => by cases z), s_Reader_readMark z⟩
            | false =>
              rw [hb] at z
              dsimp only at z
              cases hb : Nat.beq j 73 with
              | true =>
                have hb := Nat.eq_of_beq_eq_true hb
                subst hb
                exact ⟨7, by decide, (fun z => by cases z), s_Reader_readNear z⟩
              | false =>
                rw [hb] at z
                dsimp only at z
                cases hb : Nat.beq j 74 with
                | true =>
                  have hb := Nat.eq_of_beq_eq_true hb
                  subst hb
                  exact ⟨30, by decide, (fun z => by cases z), s_Reader_readMoves z⟩
                | false =>
                  rw [hb] at z
                  dsimp only at z
                  cases hb : Nat.beq j 75 with
                  | true =>
                    have hb := Nat.eq_of_beq_eq_true hb
                    subst hb
                    exact ⟨7, by decide, (fun z => by cases z), s_Reader_readStuck z⟩
                  | false =>
                    rw [hb] at z
                    dsimp only at z
                    cases z)
      (fun _ _ _ _ z => by cases z)
      (fun _ _ _ _ z => by cases z)
      (fun _ _ _ _ z => by cases z)
      (fun p e R s m args below meth c Q n0 F hret => ?_)
    rw [m1] at F hret ⊢
    rw [mc_Reader_readPart] at F hret
    exact cuts_s (K := 400) (M := 88) (D := D_Reader_readPart N) (B := fun _ _ _ _ _ => none) F hret (chkT_ok chk_Reader_readPart) (hM_Reader_readPart N) (fun _ _ _ _ _ z => by cases z) (hD_Reader_readPart N) N 0 _ _ _ hf
  · cases hf
def T_Reader_readParts : List (List (Option RW)) := [
  [some (.aload_n 0, 1, [0], 0, 0), some (.iload_n 1, 1, [1], 0, 0), some (.putfield 19, 3, [7, 2, 0], 0, 0), none, none, some (.aload_n 0, 1, [0], 0, 0), some (.iconst 0, 1, [], 0, 0), some (.putfield 15, 3, [7, 1, 0], 0, 0), none, none, some (.aload_n 0, 1, [0], 0, 0), some (.iconst 0, 1, [], 0, 0), some (.putfield 28, 3, [7, 5, 0], 0, 0), none, none, some (.aload_n 0, 1, [0], 0, 0), some (.iconst 0, 1, [], 0, 0), some (.putfield 34, 3, [7, 7, 0], 0, 0), none, none, some (.aload_n 0, 1, [0], 0, 0), some (.iconst (-1), 1, [], (-1), 0), some (.putfield 37, 3, [7, 8, 0], 0, 0), none, none, some (.aload_n 0, 1, [0], 0, 0), some (.getfield 43, 3, [7, 9, 3, 0, 2], 0, 0), none, none, some (.invokevirtual 61, 3, [1, 13, 1, 3], 0, 0), none, none],
  [some (.aload_n 0, 1, [0], 0, 0), some (.getfield 50, 3, [7, 10, 2, 0, 5, 8], 0, 0), none, none, some (.invokevirtual 64, 3, [1, 41, 1, 3], 0, 0), none, none, some (.aload_n 0, 1, [0], 0, 0), some (.lconst 0, 1, [], 0, 0), some (.putfield 54, 3, [7, 11, 1], 0, 0), none, none, some (.aload_n 0, 1, [0], 0, 0), some (.iconst 0, 1, [], 0, 0), some (.putfield 58, 3, [7, 12, 0], 0, 0), none, none, some (.aload_n 0, 1, [0], 0, 0), some (.invokevirtual 65, 3, [0, 57, 1, 3], 0, 0), none, none, some (.iconst 0, 1, [], 0, 0), some (.istore_n 2, 1, [2], 0, 0), some (.iload_n 2, 1, [2], 0, 0), some (.sipush 600, 3, [], 600, 0), none, none, some (.if_icmp .ge 27, 3, [86], 0, 0), none, none, some (.aload_n 0, 1, [0], 0, 0), some (.getfield 22, 3, [7, 3, 0], 0, 0)],
  [none, none, some (.ifCond .eq 20, 3, [86], 0, 0), none, none, some (.aload_n 0, 1, [0], 0, 0), some (.invokevirtual 68, 3, [0, 70, 1, 0], 0, 0), none, none, some (.ifCond .eq 13, 3, [86], 0, 0), none, none, some (.iinc 2 1, 3, [2], 1, 0), none, none, some (.aload_n 0, 1, [0], 0, 0), some (.invokevirtual 65, 3, [0, 57, 1, 3], 0, 0), none, none, some (.goto (-28), 3, [55], 0, 0), none, none, some (.iload_n 2, 1, [2], 0, 0), some (.ireturn, 1, [], 0, 0)]]
def F_Reader_readParts_55 (N : Nat) (bk : (Int32 → MH → Option (Int32 × MH))) (a2 : Int32) (h : MH) : Option (Int32 × MH) :=
  if 600 ≤ a2 then
  (some (a2, h))
  else
  (if (gI h 3 3) = 0 then
  (some (a2, h))
  else
  ((f_Reader_readPart N h).bind (fun x11 =>
  if x11.1 = 0 then
  (some (a2, x11.2))
  else
  (let v12 : Int32 := a2 + 1
  (f_Reader_advance N x11.2).bind (fun x13 =>
  bk v12 x13)))))
def F_Reader_readParts_0 (N : Nat) (bk : (Int32 → MH → Option (Int32 × MH))) (a1 : Int32) (h : MH) : Option (Int32 × MH) :=
  let h1 : MH := sI h 3 2 a1
  let h2 : MH := sI h1 3 1 0
  let h3 : MH := sI h2 3 5 0
  let h4 : MH := sI h3 3 7 0
  let h5 : MH := sI h4 3 8 ((-1))
  (f_Land_clear N (gR h5 3 9) h5).bind (fun x6 =>
  (f_Names_clear N x6).bind (fun x7 =>
  let h8 : MH := sJ x7 3 11 0
  let h9 : MH := sI h8 3 12 0
  (f_Reader_advance N h9).bind (fun x10 =>
  F_Reader_readParts_55 N bk 0 x10)))
def L_Reader_readParts (N : Nat) : Nat → (Int32 → MH → Option (Int32 × MH))
  | 0 => fun _ _ => none
  | n + 1 => F_Reader_readParts_55 N (L_Reader_readParts N n)
def f_Reader_readParts (N : Nat) (a1 : Int32) (h : MH) : Option (Int32 × MH) := F_Reader_readParts_0 N (L_Reader_readParts N N) a1 h
def C_Reader_readParts (N : Nat) : MC := (KDL, false, (fun _ => 0), jsB, (fun j => match Nat.beq j 70 with
    | true => w_Reader_readPart (f_Reader_readPart N)
    | false => fun _ _ => none), (fun _ _ _ => none), (fun _ _ _ => none), (fun j => match Nat.beq j 13 with
    | true => w_Land_clear (f_Land_clear N)
    | false => match Nat.beq j 41 with
    | true => w_Names_clear (f_Names_clear N)
    | false => match Nat.beq j 57 with
    | true => w_Reader_advance (f_Reader_advance N)
    | false => fun _ _ => none))
def D_Reader_readParts (N : Nat) (n pc : Nat) (lv : ML) (st : List MV) (h : MH) : Option (Int32 × MH) :=
  match Nat.beq pc 0 with
  | true => (match lk lv 0, lk lv 1, st with
    | some (.inr (.inr (0, 7, 3))), some (.inl a1), [] => F_Reader_readParts_0 N (L_Reader_readParts N n) a1 h
    | _, _, _ => none)
  | false => match Nat.beq pc 55 with
  | true => (match lk lv 0, lk lv 2, st with
    | some (.inr (.inr (0, 7, 3))), some (.inl a2), [] => F_Reader_readParts_55 N (L_Reader_readParts N n) a2 h
    | _, _, _ => none)
  | false => none
def B_Reader_readParts (N : Nat) (n pc : Nat) (lv : ML) (st : List MV) (h : MH) : Option (Int32 × MH) :=
  match Nat.beq pc 55 with
  | true => (match lk lv 0, lk lv 2, st with
    | some (.inr (.inr (0, 7, 3))), some (.inl a2), [] => ((L_Reader_readParts N n)) a2 h
    | _, _, _ => none)
  | false => none
set_option maxRecDepth 1000000 in
theorem E_Reader_readParts_0 (N : Nat) (n : Nat) (a1 : Int32) (h : MH) : seg (C_Reader_readParts N) 3 0 rI T_Reader_readParts [0, 55] (fun q lv st h => match Nat.ble 1 q with
    | true => D_Reader_readParts N n q lv st h
    | false => B_Reader_readParts N n q lv st h) 400 true 0 [(0, .inr (.inr (0, 7, 3))), (1, .inl a1)] [] h = F_Reader_readParts_0 N (L_Reader_readParts N n) a1 h := (rfl)
set_option maxRecDepth 1000000 in
theorem E_Reader_readParts_55 (N : Nat) (n : Nat) (a2 : Int32) (h : MH) : seg (C_Reader_readParts N) 3 0 rI T_Reader_readParts [0, 55] (fun q lv st h => match Nat.ble 56 q with
    | true => D_Reader_readParts N n q lv st h
    | false => B_Reader_readParts N n q lv st h) 400 true 55 [(0, .inr (.inr (0, 7, 3))), (2, .inl a2)] [] h = F_Reader_readParts_55 N (L_Reader_readParts N n) a2 h := (rfl)
set_option maxRecDepth 1000000 in
theorem chk_Reader_readParts : chkT 7 false prog_9_method_5_code T_Reader_readParts = true := by decide +kernel
theorem mc_Reader_readParts : mC 55 = prog_9_method_5_code := by rfl
theorem mx_Reader_readParts : mL 55 = 3 ∧ mR 55 = some .int ∧ mK 55 = 1 ∧ (mN 55).cls = cN 7 := by decide +kernel
theorem hD_Reader_readParts (N : Nat) {r : Int32 × MH} : ∀ n pc lv st h, D_Reader_readParts N n pc lv st h = some r → ∃ lv', (∀ q ∈ lv', q ∈ lv) ∧ seg (C_Reader_readParts N) 3 0 rI T_Reader_readParts [0, 55] (fun q lv st h => match Nat.ble (pc + 1) q with
    | true => D_Reader_readParts N n q lv st h
    | false => B_Reader_readParts N n q lv st h) 400 true pc lv' st h = some r := by
  intro n pc lv st h hf
  unfold D_Reader_readParts at hf
  split at hf
  · rename_i hb
    have hb := Nat.eq_of_beq_eq_true hb
    subst hb
    split at hf
    · rename_i y0 e0 e1
      exact ⟨_, (sub_cons e0 (sub_cons e1 sub_nil)), (E_Reader_readParts_0 N n _ h).trans hf⟩
    · cases hf
  · skip
    split at hf
    · rename_i hb
      have hb := Nat.eq_of_beq_eq_true hb
      subst hb
      split at hf
      · rename_i y0 e0 e1
        exact ⟨_, (sub_cons e0 (sub_cons e1 sub_nil)), (E_Reader_readParts_55 N n _ h).trans hf⟩
      · cases hf
    · skip
      cases hf
theorem hM_Reader_readParts (N : Nat) {r : Int32 × MH} : ∀ n pc lv st h, D_Reader_readParts N n pc lv st h = some r → pc < 88 := by
  intro n pc lv st h hf
  unfold D_Reader_readParts at hf
  split at hf
  · rename_i hb
    rw [Nat.eq_of_beq_eq_true hb]
    decide
  · skip
    split at hf
    · rename_i hb
      rw [Nat.eq_of_beq_eq_true hb]
      decide
    · skip
      cases hf
theorem hB_Reader_readParts (N : Nat) {r : Int32 × MH} : ∀ n pc lv st h, B_Reader_readParts N n pc lv st h = some r → ∃ k, n = k + 1 ∧ D_Reader_readParts N k pc lv st h = some r := by
  intro n pc lv st h hf
  unfold B_Reader_readParts at hf
  split at hf
  · rename_i hb
    have hb := Nat.eq_of_beq_eq_true hb
    subst hb
    cases n with
    | zero =>
      split at hf
      · cases hf
      · cases hf
    | succ k =>
      refine ⟨k, rfl, ?_⟩
      exact hf
  · skip
    cases hf
theorem s_Reader_readParts {l : Launch} {E : EV} {N : Nat} {as : List MV} {h : MH} {r : Int32 × MH} (hf : w_Reader_readParts (f_Reader_readParts N) as h = some r) : SndM l E false 32 55 as h (some (.inl r.1)) r.2 := by
  unfold w_Reader_readParts at hf
  split at hf
  · obtain ⟨m1, m2, m3, m4⟩ := mx_Reader_readParts
    refine snd_of (C := C_Reader_readParts N) (own := 7) (rz := 0) (lim := 115) rI_eq m2 m4 pl_55 (TB_in _ cw_55 rfl) ⟨(fun _ => ⟨_, _, _, _, _, _, rfl, rfl, by rw [m4]; rfl⟩), (fun z => by rw [m3] at z; cases z)⟩ (fun z => by cases z) KDL_take rfl rfl (fun z => by cases z) (fun z => by cases z) (fun _ => rfl) (by rw [m1]; exact Nat.le_of_ble_eq_true rfl)
      (fun j as h x z => by
      dsimp only [C_Reader_readParts] at z
      cases hb : Nat.beq j 70 with
      | true =>
        have hb := Nat.eq_of_beq_eq_true hb
        subst hb
        exact ⟨31, by decide, (fun z => by cases z), s_Reader_readPart z⟩
      | false =>
        rw [hb] at z
        dsimp only at z
        cases z)
      (fun _ _ _ _ z => by cases z)
      (fun _ _ _ _ z => by cases z)
      (fun j as h x z => by
      dsimp only [C_Reader_readParts] at z
      cases hb : Nat.beq j 13 with
      | true =>
        have hb := Nat.eq_of_beq_eq_true hb
        subst hb
        exact ⟨1, by decide, (fun z => by cases z), s_Land_clear z⟩
      | false =>
        rw [hb] at z
        dsimp only at z
        cases hb : Nat.beq j 41 with
        | true =>
          have hb := Nat.eq_of_beq_eq_true hb
          subst hb
          exact ⟨0, by decide, (fun z => by cases z), s_Names_clear z⟩
        | false =>
          rw [hb] at z
          dsimp only at z
          cases hb : Nat.beq j 57 with
          | true =>
            have hb := Nat.eq_of_beq_eq_true hb
            subst hb
            exact ⟨2, by decide, (fun z => by cases z), s_Reader_advance z⟩
          | false =>
            rw [hb] at z
            dsimp only at z
            cases z)
      (fun p e R s m args below meth c Q n0 F hret => ?_)
    rw [m1] at F hret ⊢
    rw [mc_Reader_readParts] at F hret
    exact cuts_s (K := 400) (M := 88) (D := D_Reader_readParts N) (B := B_Reader_readParts N) F hret (chkT_ok chk_Reader_readParts) (hM_Reader_readParts N) (hB_Reader_readParts N) (hD_Reader_readParts N) N 0 _ _ _ hf
  · cases hf
def T_Shakes_clear : List (List (Option RW)) := [
  [some (.aload_n 0, 1, [0], 0, 0), some (.iconst 0, 1, [], 0, 0), some (.putfield 21, 3, [8, 3, 0], 0, 0), none, none, some (.return_, 1, [], 0, 0)]]
def f_Shakes_clear (N : Nat) (h : MH) : Option (MH) :=
  let h1 : MH := sI h 29 3 0
  some h1
def C_Shakes_clear (N : Nat) : MC := (KDL, false, (fun _ => 0), jsB, (fun _ _ _ => none), (fun _ _ _ => none), (fun _ _ _ => none), (fun _ _ _ => none))
def D_Shakes_clear (N : Nat) (n pc : Nat) (lv : ML) (st : List MV) (h : MH) : Option (MH) :=
  match Nat.beq pc 0 with
  | true => (match lk lv 0, st with
    | some (.inr (.inr (0, 8, 29))), [] => f_Shakes_clear N h
    | _, _ => none)
  | false => none
set_option maxRecDepth 1000000 in
theorem E_Shakes_clear_0 (N : Nat) (n : Nat) (h : MH) : seg (C_Shakes_clear N) 1 0 rV T_Shakes_clear [0] (fun q lv st h => match Nat.ble 1 q with
    | true => D_Shakes_clear N n q lv st h
    | false => none) 400 true 0 [(0, .inr (.inr (0, 8, 29)))] [] h = f_Shakes_clear N h := (rfl)
set_option maxRecDepth 1000000 in
theorem chk_Shakes_clear : chkT 8 false prog_10_method_2_code T_Shakes_clear = true := by decide +kernel
theorem mc_Shakes_clear : mC 80 = prog_10_method_2_code := by rfl
theorem mx_Shakes_clear : mL 80 = 1 ∧ mR 80 = none ∧ mK 80 = 1 ∧ (mN 80).cls = cN 8 := by decide +kernel
theorem hD_Shakes_clear (N : Nat) {r : MH} : ∀ n pc lv st h, D_Shakes_clear N n pc lv st h = some r → ∃ lv', (∀ q ∈ lv', q ∈ lv) ∧ seg (C_Shakes_clear N) 1 0 rV T_Shakes_clear [0] (fun q lv st h => match Nat.ble (pc + 1) q with
    | true => D_Shakes_clear N n q lv st h
    | false => none) 400 true pc lv' st h = some r := by
  intro n pc lv st h hf
  unfold D_Shakes_clear at hf
  split at hf
  · rename_i hb
    have hb := Nat.eq_of_beq_eq_true hb
    subst hb
    split at hf
    · rename_i e0
      exact ⟨_, (sub_cons e0 sub_nil), (E_Shakes_clear_0 N n h).trans hf⟩
    · cases hf
  · skip
    cases hf
theorem hM_Shakes_clear (N : Nat) {r : MH} : ∀ n pc lv st h, D_Shakes_clear N n pc lv st h = some r → pc < 6 := by
  intro n pc lv st h hf
  unfold D_Shakes_clear at hf
  split at hf
  · rename_i hb
    rw [Nat.eq_of_beq_eq_true hb]
    decide
  · skip
    cases hf
theorem s_Shakes_clear {l : Launch} {E : EV} {N : Nat} {as : List MV} {h : MH} {r : MH} (hf : w_Shakes_clear (f_Shakes_clear N) as h = some r) : SndM l E false 0 80 as h none r := by
  unfold w_Shakes_clear at hf
  split at hf
  · obtain ⟨m1, m2, m3, m4⟩ := mx_Shakes_clear
    refine snd_of (C := C_Shakes_clear N) (own := 8) (rz := 0) (lim := 115) rV_eq m2 m4 pl_80 (TB_in _ cw_80 rfl) ⟨(fun _ => ⟨_, _, _, _, _, _, rfl, rfl, by rw [m4]; rfl⟩), (fun z => by rw [m3] at z; cases z)⟩ (fun z => by cases z) KDL_take rfl rfl (fun z => by cases z) (fun z => by cases z) (fun _ => rfl) (by rw [m1]; exact Nat.le_of_ble_eq_true rfl)
      (fun _ _ _ _ z => by cases z)
      (fun _ _ _ _ z => by cases z)
      (fun _ _ _ _ z => by cases z)
      (fun _ _ _ _ z => by cases z)
      (fun p e R s m args below meth c Q n0 F hret => ?_)
    rw [m1] at F hret ⊢
    rw [mc_Shakes_clear] at F hret
    exact cuts_s (K := 400) (M := 6) (D := D_Shakes_clear N) (B := fun _ _ _ _ _ => none) F hret (chkT_ok chk_Shakes_clear) (hM_Shakes_clear N) (fun _ _ _ _ _ z => by cases z) (hD_Shakes_clear N) N 0 _ _ _ hf
  · cases hf
def T_Shakes_add : List (List (Option RW)) := [
  [some (.aload_n 0, 1, [0], 0, 0), some (.getfield 21, 3, [8, 3, 0], 0, 0), none, none, some (.bipush 30, 2, [], 30, 0), none, some (.if_icmp .ge 43, 3, [49], 0, 0), none, none, some (.aload_n 0, 1, [0], 0, 0), some (.getfield 9, 3, [8, 0, 2, 1, 30, 1], 0, 0), none, none, some (.aload_n 0, 1, [0], 0, 0), some (.getfield 21, 3, [8, 3, 0], 0, 0), none, none, some (.iload_n 1, 1, [1], 0, 0), some (.iastore, 1, [], 0, 0), some (.aload_n 0, 1, [0], 0, 0), some (.getfield 15, 3, [8, 1, 2, 1, 30, 2], 0, 0), none, none, some (.aload_n 0, 1, [0], 0, 0), some (.getfield 21, 3, [8, 3, 0], 0, 0), none, none, some (.iload_n 2, 1, [2], 0, 0), some (.iastore, 1, [], 0, 0), some (.aload_n 0, 1, [0], 0, 0), some (.getfield 18, 3, [8, 2, 2, 1, 30, 3], 0, 0), none],
  [none, some (.aload_n 0, 1, [0], 0, 0), some (.getfield 21, 3, [8, 3, 0], 0, 0), none, none, some (.iload_n 3, 1, [3], 0, 0), some (.iastore, 1, [], 0, 0), some (.aload_n 0, 1, [0], 0, 0), some (.dup, 1, [], 0, 0), some (.getfield 21, 3, [8, 3, 0], 0, 0), none, none, some (.iconst 1, 1, [], 1, 0), some (.iadd, 1, [], 0, 0), some (.putfield 21, 3, [8, 3, 0], 0, 0), none, none, some (.return_, 1, [], 0, 0)]]
def f_Shakes_add (N : Nat) (a1 : Int32) (a2 : Int32) (a3 : Int32) (h : MH) : Option (MH) :=
  if 30 ≤ (gI h 29 3) then
  (some h)
  else
  (if inB (gI h 29 3) 30 = true then
  (let h1 : MH := sI h 30 (iN (gI h 29 3)) a1
  if inB (gI h1 29 3) 30 = true then
  (let h2 : MH := sI h1 31 (iN (gI h1 29 3)) a2
  if inB (gI h2 29 3) 30 = true then
  (let h3 : MH := sI h2 32 (iN (gI h2 29 3)) a3
  let h4 : MH := sI h3 29 3 ((gI h3 29 3) + 1)
  some h4)
  else none)
  else none)
  else none)
def C_Shakes_add (N : Nat) : MC := (KDL, false, (fun _ => 0), jsB, (fun _ _ _ => none), (fun _ _ _ => none), (fun _ _ _ => none), (fun _ _ _ => none))
def D_Shakes_add (N : Nat) (n pc : Nat) (lv : ML) (st : List MV) (h : MH) : Option (MH) :=
  match Nat.beq pc 0 with
  | true => (match lk lv 0, lk lv 1, lk lv 2, lk lv 3, st with
    | some (.inr (.inr (0, 8, 29))), some (.inl a1), some (.inl a2), some (.inl a3), [] => f_Shakes_add N a1 a2 a3 h
    | _, _, _, _, _ => none)
  | false => none
set_option maxRecDepth 1000000 in
theorem E_Shakes_add_0 (N : Nat) (n : Nat) (a1 : Int32) (a2 : Int32) (a3 : Int32) (h : MH) : seg (C_Shakes_add N) 4 0 rV T_Shakes_add [0] (fun q lv st h => match Nat.ble 1 q with
    | true => D_Shakes_add N n q lv st h
    | false => none) 400 true 0 [(0, .inr (.inr (0, 8, 29))), (1, .inl a1), (2, .inl a2), (3, .inl a3)] [] h = f_Shakes_add N a1 a2 a3 h := (rfl)
set_option maxRecDepth 1000000 in
theorem chk_Shakes_add : chkT 8 false prog_10_method_3_code T_Shakes_add = true := by decide +kernel
theorem mc_Shakes_add : mC 81 = prog_10_method_3_code := by rfl
theorem mx_Shakes_add : mL 81 = 4 ∧ mR 81 = none ∧ mK 81 = 1 ∧ (mN 81).cls = cN 8 := by decide +kernel
theorem hD_Shakes_add (N : Nat) {r : MH} : ∀ n pc lv st h, D_Shakes_add N n pc lv st h = some r → ∃ lv', (∀ q ∈ lv', q ∈ lv) ∧ seg (C_Shakes_add N) 4 0 rV T_Shakes_add [0] (fun q lv st h => match Nat.ble (pc + 1) q with
    | true => D_Shakes_add N n q lv st h
    | false => none) 400 true pc lv' st h = some r := by
  intro n pc lv st h hf
  unfold D_Shakes_add at hf
  split at hf
  · rename_i hb
    have hb := Nat.eq_of_beq_eq_true hb
    subst hb
    split at hf
    · rename_i y0 y1 y2 e0 e1 e2 e3
      exact ⟨_, (sub_cons e0 (sub_cons e1 (sub_cons e2 (sub_cons e3 sub_nil)))), (E_Shakes_add_0 N n _ _ _ h).trans hf⟩
    · cases hf
  · skip
    cases hf
theorem hM_Shakes_add (N : Nat) {r : MH} : ∀ n pc lv st h, D_Shakes_add N n pc lv st h = some r → pc < 50 := by
  intro n pc lv st h hf
  unfold D_Shakes_add at hf
  split at hf
  · rename_i hb
    rw [Nat.eq_of_beq_eq_true hb]
    decide
  · skip
    cases hf
theorem s_Shakes_add {l : Launch} {E : EV} {N : Nat} {as : List MV} {h : MH} {r : MH} (hf : w_Shakes_add (f_Shakes_add N) as h = some r) : SndM l E false 0 81 as h none r := by
  unfold w_Shakes_add at hf
  split at hf
  · obtain ⟨m1, m2, m3, m4⟩ := mx_Shakes_add
    refine snd_of (C := C_Shakes_add N) (own := 8) (rz := 0) (lim := 115) rV_eq m2 m4 pl_81 (TB_in _ cw_81 rfl) ⟨(fun _ => ⟨_, _, _, _, _, _, rfl, rfl, by rw [m4]; rfl⟩), (fun z => by rw [m3] at z; cases z)⟩ (fun z => by cases z) KDL_take rfl rfl (fun z => by cases z) (fun z => by cases z) (fun _ => rfl) (by rw [m1]; exact Nat.le_of_ble_eq_true rfl)
      (fun _ _ _ _ z => by cases z)
      (fun _ _ _ _ z => by cases z)
      (fun _ _ _ _ z => by cases z)
      (fun _ _ _ _ z => by cases z)
      (fun p e R s m args below meth c Q n0 F hret => ?_)
    rw [m1] at F hret ⊢
    rw [mc_Shakes_add] at F hret
    exact cuts_s (K := 400) (M := 50) (D := D_Shakes_add N) (B := fun _ _ _ _ _ => none) F hret (chkT_ok chk_Shakes_add) (hM_Shakes_add N) (fun _ _ _ _ _ z => by cases z) (hD_Shakes_add N) N 0 _ _ _ hf
  · cases hf
def T_Math_min_JJ : List (List (Option RW)) := [
  [some (.lload_n 0, 1, [0], 0, 0), some (.lload_n 2, 1, [2], 0, 0), some (.lcmp, 1, [], 0, 0), some (.ifCond .gt 7, 3, [10], 0, 0), none, none, some (.lload_n 0, 1, [0], 0, 0), some (.goto 4, 3, [11], 0, 0), none, none, some (.lload_n 2, 1, [2], 0, 0), some (.lreturn, 1, [], 0, 0)]]
def f_Math_min_JJ (N : Nat) (a0 : Int64) (a2 : Int64) (h : MH) : Option (Int64 × MH) :=
  if 0 < (lg_cmp a0 a2) then
  (some (a2, h))
  else
  (some (a0, h))
def C_Math_min_JJ (N : Nat) : MC := (KDL, false, (fun _ => 0), jsB, (fun _ _ _ => none), (fun _ _ _ => none), (fun _ _ _ => none), (fun _ _ _ => none))
def D_Math_min_JJ (N : Nat) (n pc : Nat) (lv : ML) (st : List MV) (h : MH) : Option (Int64 × MH) :=
  match Nat.beq pc 0 with
  | true => (match lk lv 0, lk lv 2, st with
    | some (.inr (.inl a0)), some (.inr (.inl a2)), [] => f_Math_min_JJ N a0 a2 h
    | _, _, _ => none)
  | false => none
set_option maxRecDepth 1000000 in
theorem E_Math_min_JJ_0 (N : Nat) (n : Nat) (a0 : Int64) (a2 : Int64) (h : MH) : seg (C_Math_min_JJ N) 4 0 rJ T_Math_min_JJ [0] (fun q lv st h => match Nat.ble 1 q with
    | true => D_Math_min_JJ N n q lv st h
    | false => none) 400 true 0 [(0, .inr (.inl a0)), (2, .inr (.inl a2))] [] h = f_Math_min_JJ N a0 a2 h := (rfl)
set_option maxRecDepth 1000000 in
theorem chk_Math_min_JJ : chkT 16 false prog_17_method_70_code T_Math_min_JJ = true := by decide +kernel
theorem mc_Math_min_JJ : mC 262 = prog_17_method_70_code := by rfl
theorem mx_Math_min_JJ : mL 262 = 4 ∧ mR 262 = some .long ∧ mK 262 = 0 ∧ (mN 262).cls = cN 16 := by decide +kernel
theorem hD_Math_min_JJ (N : Nat) {r : Int64 × MH} : ∀ n pc lv st h, D_Math_min_JJ N n pc lv st h = some r → ∃ lv', (∀ q ∈ lv', q ∈ lv) ∧ seg (C_Math_min_JJ N) 4 0 rJ T_Math_min_JJ [0] (fun q lv st h => match Nat.ble (pc + 1) q with
    | true => D_Math_min_JJ N n q lv st h
    | false => none) 400 true pc lv' st h = some r := by
  intro n pc lv st h hf
  unfold D_Math_min_JJ at hf
  split at hf
  · rename_i hb
    have hb := Nat.eq_of_beq_eq_true hb
    subst hb
    split at hf
    · rename_i y0 y1 e0 e1
      exact ⟨_, (sub_cons e0 (sub_cons e1 sub_nil)), (E_Math_min_JJ_0 N n _ _ h).trans hf⟩
    · cases hf
  · skip
    cases hf
theorem hM_Math_min_JJ (N : Nat) {r : Int64 × MH} : ∀ n pc lv st h, D_Math_min_JJ N n pc lv st h = some r → pc < 12 := by
  intro n pc lv st h hf
  unfold D_Math_min_JJ at hf
  split at hf
  · rename_i hb
    rw [Nat.eq_of_beq_eq_true hb]
    decide
  · skip
    cases hf
theorem s_Math_min_JJ {l : Launch} {E : EV} {N : Nat} {as : List MV} {h : MH} {r : Int64 × MH} (hf : w_Math_min_JJ (f_Math_min_JJ N) as h = some r) : SndM l E false 0 262 as h (some (.inr (.inl r.1))) r.2 := by
  unfold w_Math_min_JJ at hf
  split at hf
  · obtain ⟨m1, m2, m3, m4⟩ := mx_Math_min_JJ
    refine snd_of (C := C_Math_min_JJ N) (own := 16) (rz := 0) (lim := 115) rJ_eq m2 m4 pl_262 (TB_in _ cw_262 rfl) ⟨(fun z => by rw [m3] at z; cases z), (fun z => by rw [m3] at z; cases z)⟩ (fun z => by cases z) KDL_take rfl rfl (fun z => by cases z) (fun z => by cases z) (fun _ => rfl) (by rw [m1]; exact Nat.le_of_ble_eq_true rfl)
      (fun _ _ _ _ z => by cases z)
      (fun _ _ _ _ z => by cases z)
      (fun _ _ _ _ z => by cases z)
      (fun _ _ _ _ z => by cases z)
      (fun p e R s m args below meth c Q n0 F hret => ?_)
    rw [m1] at F hret ⊢
    rw [mc_Math_min_JJ] at F hret
    exact cuts_s (K := 400) (M := 12) (D := D_Math_min_JJ N) (B := fun _ _ _ _ _ => none) F hret (chkT_ok chk_Math_min_JJ) (hM_Math_min_JJ N) (fun _ _ _ _ _ z => by cases z) (hD_Math_min_JJ N) N 0 _ _ _ hf
  · cases hf
def T_Shakes_left : List (List (Option RW)) := [
  [some (.lconst 0, 1, [], 0, 0), some (.lstore 5, 2, [5], 0, 0), none, some (.iconst 0, 1, [], 0, 0), some (.istore 7, 2, [7], 0, 0), none, some (.iload 7, 2, [7], 0, 0), none, some (.iload_n 2, 1, [2], 0, 0), some (.if_icmp .gt 78, 3, [87], 0, 0), none, none, some (.lload 5, 2, [5], 0, 0), none, some (.lload_n 3, 1, [3], 0, 0), some (.ladd, 1, [], 0, 0), some (.lstore 5, 2, [5], 0, 0), none, some (.iconst 0, 1, [], 0, 0), some (.istore 8, 2, [8], 0, 0), none, some (.iload 8, 2, [8], 0, 0), none, some (.aload_n 0, 1, [0], 0, 0), some (.getfield 21, 3, [8, 3, 0], 0, 0), none, none, some (.if_icmp .ge 54, 3, [81], 0, 0), none, none, some (.aload_n 0, 1, [0], 0, 0), some (.getfield 9, 3, [8, 0, 2, 1, 30, 1], 0, 0)],
  [none, none, some (.iload 8, 2, [8], 0, 0), none, some (.iaload, 1, [], 0, 0), some (.iload 7, 2, [7], 0, 0), none, some (.if_icmp .ne 36, 3, [75], 0, 0), none, none, some (.aload_n 0, 1, [0], 0, 0), some (.getfield 15, 3, [8, 1, 2, 1, 30, 2], 0, 0), none, none, some (.iload 8, 2, [8], 0, 0), none, some (.iaload, 1, [], 0, 0), some (.iload_n 1, 1, [1], 0, 0), some (.if_icmp .ne 25, 3, [75], 0, 0), none, none, some (.lload 5, 2, [5], 0, 0), none, some (.lload 5, 2, [5], 0, 0), none, some (.aload_n 0, 1, [0], 0, 0), some (.getfield 18, 3, [8, 2, 2, 1, 30, 3], 0, 0), none, none, some (.iload 8, 2, [8], 0, 0), none, some (.iaload, 1, [], 0, 0)],
  [some (.i2l, 1, [], 0, 0), some (.ldc2_w 25, 3, [], 0, 10000), none, none, some (.lmul, 1, [], 0, 0), some (.invokestatic 27, 3, [2, 262, 2, 1], 0, 0), none, none, some (.lsub, 1, [], 0, 0), some (.lstore 5, 2, [5], 0, 0), none, some (.iinc 8 1, 3, [8], 1, 0), none, none, some (.goto (-57), 3, [21], 0, 0), none, none, some (.iinc 7 1, 3, [7], 1, 0), none, none, some (.goto (-78), 3, [6], 0, 0), none, none, some (.lload 5, 2, [5], 0, 0), none, some (.lreturn, 1, [], 0, 0)]]
def F_Shakes_left_21 (N : Nat) (bk : (Int32 → Int32 → Int64 → Int64 → Int32 → MH → Option (Int64 × MH)) × (Int32 → Int32 → Int64 → Int64 → Int32 → Int32 → MH → Option (Int64 × MH))) (a1 : Int32) (a2 : Int32) (a3 : Int64) (a5 : Int64) (a7 : Int32) (a8 : Int32) (h : MH) : Option (Int64 × MH) :=
  if (gI h 29 3) ≤ a8 then
  (let v2 : Int32 := a7 + 1
  (bk.1) a1 a2 a3 a5 v2 h)
  else
  (if inB a8 30 = true then
  (if (gI h 30 (iN a8)) = a7 then
  (if inB a8 30 = true then
  (if (gI h 31 (iN a8)) = a1 then
  (if inB a8 30 = true then
  ((f_Math_min_JJ N a5 ((((gI h 32 (iN a8))).toInt64) * 10000) h).bind (fun x3 =>
  let v4 : Int64 := a5 - x3.1
  let v5 : Int32 := a8 + 1
  (bk.2) a1 a2 a3 v4 a7 v5 x3.2))
  else none)
  else
  (let v6 : Int32 := a8 + 1
  (bk.2) a1 a2 a3 a5 a7 v6 h))
  else none)
  else
  (let v7 : Int32 := a8 + 1
  (bk.2) a1 a2 a3 a5 a7 v7 h))
  else none)
def F_Shakes_left_6 (N : Nat) (bk : (Int32 → Int32 → Int64 → Int64 → Int32 → MH → Option (Int64 × MH)) × (Int32 → Int32 → Int64 → Int64 → Int32 → Int32 → MH → Option (Int64 × MH))) (a1 : Int32) (a2 : Int32) (a3 : Int64) (a5 : Int64) (a7 : Int32) (h : MH) : Option (Int64 × MH) :=
  if a2 < a7 then
  (some (a5, h))
  else
  (let v1 : Int64 := a5 + a3
  F_Shakes_left_21 N bk a1 a2 a3 v1 a7 0 h)
def F_Shakes_left_0 (N : Nat) (bk : (Int32 → Int32 → Int64 → Int64 → Int32 → MH → Option (Int64 × MH)) × (Int32 → Int32 → Int64 → Int64 → Int32 → Int32 → MH → Option (Int64 × MH))) (a1 : Int32) (a2 : Int32) (a3 : Int64) (h : MH) : Option (Int64 × MH) :=
  F_Shakes_left_6 N bk a1 a2 a3 0 0 h
def L_Shakes_left (N : Nat) : Nat → ((Int32 → Int32 → Int64 → Int64 → Int32 → MH → Option (Int64 × MH)) × (Int32 → Int32 → Int64 → Int64 → Int32 → Int32 → MH → Option (Int64 × MH)))
  | 0 => (fun _ _ _ _ _ _ => none, fun _ _ _ _ _ _ _ => none)
  | n + 1 => (F_Shakes_left_6 N (L_Shakes_left N n), F_Shakes_left_21 N (L_Shakes_left N n))
def f_Shakes_left (N : Nat) (a1 : Int32) (a2 : Int32) (a3 : Int64) (h : MH) : Option (Int64 × MH) := F_Shakes_left_0 N (L_Shakes_left N N) a1 a2 a3 h
def C_Shakes_left (N : Nat) : MC := (KDL, false, (fun _ => 0), jsB, (fun _ _ _ => none), (fun j => match Nat.beq j 262 with
    | true => w_Math_min_JJ (f_Math_min_JJ N)
    | false => fun _ _ => none), (fun _ _ _ => none), (fun _ _ _ => none))
def D_Shakes_left (N : Nat) (n pc : Nat) (lv : ML) (st : List MV) (h : MH) : Option (Int64 × MH) :=
  match Nat.beq pc 0 with
  | true => (match lk lv 0, lk lv 1, lk lv 2, lk lv 3, st with
    | some (.inr (.inr (0, 8, 29))), some (.inl a1), some (.inl a2), some (.inr (.inl a3)), [] => F_Shakes_left_0 N (L_Shakes_left N n) a1 a2 a3 h
    | _, _, _, _, _ => none)
  | false => match Nat.beq pc 6 with
  | true => (match lk lv 0, lk lv 1, lk lv 2, lk lv 3, lk lv 5, lk lv 7, st with
    | some (.inr (.inr (0, 8, 29))), some (.inl a1), some (.inl a2), some (.inr (.inl a3)), some (.inr (.inl a5)), some (.inl a7), [] => F_Shakes_left_6 N (L_Shakes_left N n) a1 a2 a3 a5 a7 h
    | _, _, _, _, _, _, _ => none)
  | false => match Nat.beq pc 21 with
  | true => (match lk lv 0, lk lv 1, lk lv 2, lk lv 3, lk lv 5, lk lv 7, lk lv 8, st with
    | some (.inr (.inr (0, 8, 29))), some (.inl a1), some (.inl a2), some (.inr (.inl a3)), some (.inr (.inl a5)), some (.inl a7), some (.inl a8), [] => F_Shakes_left_21 N (L_Shakes_left N n) a1 a2 a3 a5 a7 a8 h
    | _, _, _, _, _, _, _, _ => none)
  | false => none
def B_Shakes_left (N : Nat) (n pc : Nat) (lv : ML) (st : List MV) (h : MH) : Option (Int64 × MH) :=
  match Nat.beq pc 6 with
  | true => (match lk lv 0, lk lv 1, lk lv 2, lk lv 3, lk lv 5, lk lv 7, st with
    | some (.inr (.inr (0, 8, 29))), some (.inl a1), some (.inl a2), some (.inr (.inl a3)), some (.inr (.inl a5)), some (.inl a7), [] => ((L_Shakes_left N n).1) a1 a2 a3 a5 a7 h
    | _, _, _, _, _, _, _ => none)
  | false => match Nat.beq pc 21 with
  | true => (match lk lv 0, lk lv 1, lk lv 2, lk lv 3, lk lv 5, lk lv 7, lk lv 8, st with
    | some (.inr (.inr (0, 8, 29))), some (.inl a1), some (.inl a2), some (.inr (.inl a3)), some (.inr (.inl a5)), some (.inl a7), some (.inl a8), [] => ((L_Shakes_left N n).2) a1 a2 a3 a5 a7 a8 h
    | _, _, _, _, _, _, _, _ => none)
  | false => none
set_option maxRecDepth 1000000 in
theorem E_Shakes_left_0 (N : Nat) (n : Nat) (a1 : Int32) (a2 : Int32) (a3 : Int64) (h : MH) : seg (C_Shakes_left N) 9 0 rJ T_Shakes_left [0, 6, 21] (fun q lv st h => match Nat.ble 1 q with
    | true => D_Shakes_left N n q lv st h
    | false => B_Shakes_left N n q lv st h) 400 true 0 [(0, .inr (.inr (0, 8, 29))), (1, .inl a1), (2, .inl a2), (3, .inr (.inl a3))] [] h = F_Shakes_left_0 N (L_Shakes_left N n) a1 a2 a3 h := (rfl)
set_option maxRecDepth 1000000 in
theorem E_Shakes_left_6 (N : Nat) (n : Nat) (a1 : Int32) (a2 : Int32) (a3 : Int64) (a5 : Int64) (a7 : Int32) (h : MH) : seg (C_Shakes_left N) 9 0 rJ T_Shakes_left [0, 6, 21] (fun q lv st h => match Nat.ble 7 q with
    | true => D_Shakes_left N n q lv st h
    | false => B_Shakes_left N n q lv st h) 400 true 6 [(0, .inr (.inr (0, 8, 29))), (1, .inl a1), (2, .inl a2), (3, .inr (.inl a3)), (5, .inr (.inl a5)), (7, .inl a7)] [] h = F_Shakes_left_6 N (L_Shakes_left N n) a1 a2 a3 a5 a7 h := (rfl)
set_option maxRecDepth 1000000 in
theorem E_Shakes_left_21 (N : Nat) (n : Nat) (a1 : Int32) (a2 : Int32) (a3 : Int64) (a5 : Int64) (a7 : Int32) (a8 : Int32) (h : MH) : seg (C_Shakes_left N) 9 0 rJ T_Shakes_left [0, 6, 21] (fun q lv st h => match Nat.ble 22 q with
    | true => D_Shakes_left N n q lv st h
    | false => B_Shakes_left N n q lv st h) 400 true 21 [(0, .inr (.inr (0, 8, 29))), (1, .inl a1), (2, .inl a2), (3, .inr (.inl a3)), (5, .inr (.inl a5)), (7, .inl a7), (8, .inl a8)] [] h = F_Shakes_left_21 N (L_Shakes_left N n) a1 a2 a3 a5 a7 a8 h := (rfl)
set_option maxRecDepth 1000000 in
theorem chk_Shakes_left : chkT 8 false prog_10_method_4_code T_Shakes_left = true := by decide +kernel
theorem mc_Shakes_left : mC 82 = prog_10_method_4_code := by rfl
theorem mx_Shakes_left : mL 82 = 9 ∧ mR 82 = some .long ∧ mK 82 = 1 ∧ (mN 82).cls = cN 8 := by decide +kernel
theorem hD_Shakes_left (N : Nat) {r : Int64 × MH} : ∀ n pc lv st h, D_Shakes_left N n pc lv st h = some r → ∃ lv', (∀ q ∈ lv', q ∈ lv) ∧ seg (C_Shakes_left N) 9 0 rJ T_Shakes_left [0, 6, 21] (fun q lv st h => match Nat.ble (pc + 1) q with
    | true => D_Shakes_left N n q lv st h
    | false => B_Shakes_left N n q lv st h) 400 true pc lv' st h = some r := by
  intro n pc lv st h hf
  unfold D_Shakes_left at hf
  split at hf
  · rename_i hb
    have hb := Nat.eq_of_beq_eq_true hb
    subst hb
    split at hf
    · rename_i y0 y1 y2 e0 e1 e2 e3
      exact ⟨_, (sub_cons e0 (sub_cons e1 (sub_cons e2 (sub_cons e3 sub_nil)))), (E_Shakes_left_0 N n _ _ _ h).trans hf⟩
    · cases hf
  · skip
    split at hf
    · rename_i hb
      have hb := Nat.eq_of_beq_eq_true hb
      subst hb
      split at hf
      · rename_i y0 y1 y2 y3 y4 e0 e1 e2 e3 e4 e5
        exact ⟨_, (sub_cons e0 (sub_cons e1 (sub_cons e2 (sub_cons e3 (sub_cons e4 (sub_cons e5 sub_nil)))))), (E_Shakes_left_6 N n _ _ _ _ _ h).trans hf⟩
      · cases hf
    · skip
      split at hf
      · rename_i hb
        have hb := Nat.eq_of_beq_eq_true hb
        subst hb
        split at hf
        · rename_i y0 y1 y2 y3 y4 y5 e0 e1 e2 e3 e4 e5 e6
          exact ⟨_, (sub_cons e0 (sub_cons e1 (sub_cons e2 (sub_cons e3 (sub_cons e4 (sub_cons e5 (sub_cons e6 sub_nil))))))), (E_Shakes_left_21 N n _ _ _ _ _ _ h).trans hf⟩
        · cases hf
      · skip
        cases hf
theorem hM_Shakes_left (N : Nat) {r : Int64 × MH} : ∀ n pc lv st h, D_Shakes_left N n pc lv st h = some r → pc < 90 := by
  intro n pc lv st h hf
  unfold D_Shakes_left at hf
  split at hf
  · rename_i hb
    rw [Nat.eq_of_beq_eq_true hb]
    decide
  · skip
    split at hf
    · rename_i hb
      rw [Nat.eq_of_beq_eq_true hb]
      decide
    · skip
      split at hf
      · rename_i hb
        rw [Nat.eq_of_beq_eq_true hb]
        decide
      · skip
        cases hf
theorem hB_Shakes_left (N : Nat) {r : Int64 × MH} : ∀ n pc lv st h, B_Shakes_left N n pc lv st h = some r → ∃ k, n = k + 1 ∧ D_Shakes_left N k pc lv st h = some r := by
  intro n pc lv st h hf
  unfold B_Shakes_left at hf
  split at hf
  · rename_i hb
    have hb := Nat.eq_of_beq_eq_true hb
    subst hb
    cases n with
    | zero =>
      split at hf
      · cases hf
      · cases hf
    | succ k =>
      refine ⟨k, rfl, ?_⟩
      exact hf
  · skip
    split at hf
    · rename_i hb
      have hb := Nat.eq_of_beq_eq_true hb
      subst hb
      cases n with
      | zero =>
        split at hf
        · cases hf
        · cases hf
      | succ k =>
        refine ⟨k, rfl, ?_⟩
        exact hf
    · skip
      cases hf
theorem s_Shakes_left {l : Launch} {E : EV} {N : Nat} {as : List MV} {h : MH} {r : Int64 × MH} (hf : w_Shakes_left (f_Shakes_left N) as h = some r) : SndM l E false 1 82 as h (some (.inr (.inl r.1))) r.2 := by
  unfold w_Shakes_left at hf
  split at hf
  · obtain ⟨m1, m2, m3, m4⟩ := mx_Shakes_left
    refine snd_of (C := C_Shakes_left N) (own := 8) (rz := 0) (lim := 115) rJ_eq m2 m4 pl_82 (TB_in _ cw_82 rfl) ⟨(fun _ => ⟨_, _, _, _, _, _, rfl, rfl, by rw [m4]; rfl⟩), (fun z => by rw [m3] at z; cases z)⟩ (fun z => by cases z) KDL_take rfl rfl (fun z => by cases z) (fun z => by cases z) (fun _ => rfl) (by rw [m1]; exact Nat.le_of_ble_eq_true rfl)
      (fun _ _ _ _ z => by cases z)
      (fun j as h x z => by
      dsimp only [C_Shakes_left] at z
      cases hb : Nat.beq j 262 with
      | true =>
        have hb := Nat.eq_of_beq_eq_true hb
        subst hb
        exact ⟨0, by decide, (fun z => by cases z), s_Math_min_JJ z⟩
      | false =>
        rw [hb] at z
        dsimp only at z
        cases z)
      (fun _ _ _ _ z => by cases z)
      (fun _ _ _ _ z => by cases z)
      (fun p e R s m args below meth c Q n0 F hret => ?_)
    rw [m1] at F hret ⊢
    rw [mc_Shakes_left] at F hret
    exact cuts_s (K := 400) (M := 90) (D := D_Shakes_left N) (B := B_Shakes_left N) F hret (chkT_ok chk_Shakes_left) (hM_Shakes_left N) (hB_Shakes_left N) (hD_Shakes_left N) N 0 _ _ _ hf
  · cases hf
def T_Tray_isMissing : List (List (Option RW)) := [
  [some (.aload_n 0, 1, [0], 0, 0), some (.getfield 19, 3, [9, 2, 0], 0, 0), none, none, some (.ifCond .ge 7, 3, [11], 0, 0), none, none, some (.iconst 1, 1, [], 1, 0), some (.goto 4, 3, [12], 0, 0), none, none, some (.iconst 0, 1, [], 0, 0), some (.ireturn, 1, [], 0, 0)]]
def f_Tray_isMissing (N : Nat) (r0 : Nat) (h : MH) : Option (Int32 × MH) :=
  if 0 ≤ (gI h r0 2) then
  (some (0, h))
  else
  (some (1, h))
def C_Tray_isMissing (N : Nat) : MC := (KDL, false, (fun _ => 0), jsB, (fun _ _ _ => none), (fun _ _ _ => none), (fun _ _ _ => none), (fun _ _ _ => none))
def D_Tray_isMissing (N : Nat) (n pc : Nat) (lv : ML) (st : List MV) (h : MH) : Option (Int32 × MH) :=
  match Nat.beq pc 0 with
  | true => (match lk lv 0, st with
    | some (.inr (.inr (0, 9, r0))), [] => f_Tray_isMissing N r0 h
    | _, _ => none)
  | false => none
set_option maxRecDepth 1000000 in
theorem E_Tray_isMissing_0 (N : Nat) (n : Nat) (r0 : Nat) (h : MH) : seg (C_Tray_isMissing N) 1 1 rI T_Tray_isMissing [0] (fun q lv st h => match Nat.ble 1 q with
    | true => D_Tray_isMissing N n q lv st h
    | false => none) 400 true 0 [(0, .inr (.inr (0, 9, r0)))] [] h = f_Tray_isMissing N r0 h := (rfl)
set_option maxRecDepth 1000000 in
theorem chk_Tray_isMissing : chkT 9 false prog_11_method_2_code T_Tray_isMissing = true := by decide +kernel
theorem mc_Tray_isMissing : mC 84 = prog_11_method_2_code := by rfl
theorem mx_Tray_isMissing : mL 84 = 1 ∧ mR 84 = some .boolean ∧ mK 84 = 1 ∧ (mN 84).cls = cN 9 := by decide +kernel
theorem hD_Tray_isMissing (N : Nat) {r : Int32 × MH} : ∀ n pc lv st h, D_Tray_isMissing N n pc lv st h = some r → ∃ lv', (∀ q ∈ lv', q ∈ lv) ∧ seg (C_Tray_isMissing N) 1 1 rI T_Tray_isMissing [0] (fun q lv st h => match Nat.ble (pc + 1) q with
    | true => D_Tray_isMissing N n q lv st h
    | false => none) 400 true pc lv' st h = some r := by
  intro n pc lv st h hf
  unfold D_Tray_isMissing at hf
  split at hf
  · rename_i hb
    have hb := Nat.eq_of_beq_eq_true hb
    subst hb
    split at hf
    · rename_i y0 e0
      exact ⟨_, (sub_cons e0 sub_nil), (E_Tray_isMissing_0 N n _ h).trans hf⟩
    · cases hf
  · skip
    cases hf
theorem hM_Tray_isMissing (N : Nat) {r : Int32 × MH} : ∀ n pc lv st h, D_Tray_isMissing N n pc lv st h = some r → pc < 13 := by
  intro n pc lv st h hf
  unfold D_Tray_isMissing at hf
  split at hf
  · rename_i hb
    rw [Nat.eq_of_beq_eq_true hb]
    decide
  · skip
    cases hf
theorem s_Tray_isMissing {l : Launch} {E : EV} {N : Nat} {as : List MV} {h : MH} {r : Int32 × MH} (hf : w_Tray_isMissing (f_Tray_isMissing N) as h = some r) : SndM l E false 0 84 as h (some (.inl r.1)) r.2 := by
  unfold w_Tray_isMissing at hf
  split at hf
  · obtain ⟨m1, m2, m3, m4⟩ := mx_Tray_isMissing
    refine snd_of (C := C_Tray_isMissing N) (own := 9) (rz := 1) (lim := 115) rI_eq m2 m4 pl_84 (TB_in _ cw_84 rfl) ⟨(fun _ => ⟨_, _, _, _, _, _, rfl, rfl, by rw [m4]; rfl⟩), (fun z => by rw [m3] at z; cases z)⟩ (fun z => by cases z) KDL_take rfl rfl (fun z => by cases z) (fun z => by cases z) (fun _ => rfl) (by rw [m1]; exact Nat.le_of_ble_eq_true rfl)
      (fun _ _ _ _ z => by cases z)
      (fun _ _ _ _ z => by cases z)
      (fun _ _ _ _ z => by cases z)
      (fun _ _ _ _ z => by cases z)
      (fun p e R s m args below meth c Q n0 F hret => ?_)
    rw [m1] at F hret ⊢
    rw [mc_Tray_isMissing] at F hret
    exact cuts_s (K := 400) (M := 13) (D := D_Tray_isMissing N) (B := fun _ _ _ _ _ => none) F hret (chkT_ok chk_Tray_isMissing) (hM_Tray_isMissing N) (fun _ _ _ _ _ z => by cases z) (hD_Tray_isMissing N) N 0 _ _ _ hf
  · cases hf
def T_Arrays_fill_AJJ : List (List (Option RW)) := [
  [some (.iconst 0, 1, [], 0, 0), some (.istore_n 3, 1, [3], 0, 0), some (.aload_n 0, 1, [0], 0, 0), some (.arraylength, 1, [], 0, 0), some (.istore 4, 2, [4], 0, 0), none, some (.iload_n 3, 1, [3], 0, 0), some (.iload 4, 2, [4], 0, 0), none, some (.if_icmp .ge 13, 3, [22], 0, 0), none, none, some (.aload_n 0, 1, [0], 0, 0), some (.iload_n 3, 1, [3], 0, 0), some (.lload_n 1, 1, [1], 0, 0), some (.lastore, 1, [], 0, 0), some (.iinc 3 1, 3, [3], 1, 0), none, none, some (.goto (-13), 3, [6], 0, 0), none, none, some (.return_, 1, [], 0, 0)]]
def F_Arrays_fill_AJJ_6 (N : Nat) (bk : (Nat → Nat → Int64 → Int32 → Int32 → MH → Option (MH))) (q0 : Nat) (r0 : Nat) (a1 : Int64) (a3 : Int32) (a4 : Int32) (h : MH) : Option (MH) :=
  if a4 ≤ a3 then
  (some h)
  else
  (if inB a3 q0 = true then
  (let h2 : MH := sJ h r0 (iN a3) a1
  let v3 : Int32 := a3 + 1
  bk q0 r0 a1 v3 a4 h2)
  else none)
def F_Arrays_fill_AJJ_0 (N : Nat) (bk : (Nat → Nat → Int64 → Int32 → Int32 → MH → Option (MH))) (q0 : Nat) (r0 : Nat) (a1 : Int64) (h : MH) : Option (MH) :=
  let v1 : Int32 := nI q0
  F_Arrays_fill_AJJ_6 N bk q0 r0 a1 0 v1 h
def L_Arrays_fill_AJJ (N : Nat) : Nat → (Nat → Nat → Int64 → Int32 → Int32 → MH → Option (MH))
  | 0 => fun _ _ _ _ _ _ => none
  | n + 1 => F_Arrays_fill_AJJ_6 N (L_Arrays_fill_AJJ N n)
def f_Arrays_fill_AJJ (N : Nat) (q0 : Nat) (r0 : Nat) (a1 : Int64) (h : MH) : Option (MH) := F_Arrays_fill_AJJ_0 N (L_Arrays_fill_AJJ N N) q0 r0 a1 h
def C_Arrays_fill_AJJ (N : Nat) : MC := (KDL, false, (fun _ => 0), jsB, (fun _ _ _ => none), (fun _ _ _ => none), (fun _ _ _ => none), (fun _ _ _ => none))
def D_Arrays_fill_AJJ (N : Nat) (n pc : Nat) (lv : ML) (st : List MV) (h : MH) : Option (MH) :=
  match Nat.beq pc 0 with
  | true => (match lk lv 0, lk lv 1, st with
    | some (.inr (.inr (2, q0, r0))), some (.inr (.inl a1)), [] => F_Arrays_fill_AJJ_0 N (L_Arrays_fill_AJJ N n) q0 r0 a1 h
    | _, _, _ => none)
  | false => match Nat.beq pc 6 with
  | true => (match lk lv 0, lk lv 1, lk lv 3, lk lv 4, st with
    | some (.inr (.inr (2, q0, r0))), some (.inr (.inl a1)), some (.inl a3), some (.inl a4), [] => F_Arrays_fill_AJJ_6 N (L_Arrays_fill_AJJ N n) q0 r0 a1 a3 a4 h
    | _, _, _, _, _ => none)
  | false => none
def B_Arrays_fill_AJJ (N : Nat) (n pc : Nat) (lv : ML) (st : List MV) (h : MH) : Option (MH) :=
  match Nat.beq pc 6 with
  | true => (match lk lv 0, lk lv 1, lk lv 3, lk lv 4, st with
    | some (.inr (.inr (2, q0, r0))), some (.inr (.inl a1)), some (.inl a3), some (.inl a4), [] => ((L_Arrays_fill_AJJ N n)) q0 r0 a1 a3 a4 h
    | _, _, _, _, _ => none)
  | false => none
set_option maxRecDepth 1000000 in
theorem E_Arrays_fill_AJJ_0 (N : Nat) (n : Nat) (q0 : Nat) (r0 : Nat) (a1 : Int64) (h : MH) : seg (C_Arrays_fill_AJJ N) 5 0 rV T_Arrays_fill_AJJ [0, 6] (fun q lv st h => match Nat.ble 1 q with
    | true => D_Arrays_fill_AJJ N n q lv st h
    | false => B_Arrays_fill_AJJ N n q lv st h) 400 true 0 [(0, .inr (.inr (2, q0, r0))), (1, .inr (.inl a1))] [] h = F_Arrays_fill_AJJ_0 N (L_Arrays_fill_AJJ N n) q0 r0 a1 h := (rfl)
set_option maxRecDepth 1000000 in
theorem E_Arrays_fill_AJJ_6 (N : Nat) (n : Nat) (q0 : Nat) (r0 : Nat) (a1 : Int64) (a3 : Int32) (a4 : Int32) (h : MH) : seg (C_Arrays_fill_AJJ N) 5 0 rV T_Arrays_fill_AJJ [0, 6] (fun q lv st h => match Nat.ble 7 q with
    | true => D_Arrays_fill_AJJ N n q lv st h
    | false => B_Arrays_fill_AJJ N n q lv st h) 400 true 6 [(0, .inr (.inr (2, q0, r0))), (1, .inr (.inl a1)), (3, .inl a3), (4, .inl a4)] [] h = F_Arrays_fill_AJJ_6 N (L_Arrays_fill_AJJ N n) q0 r0 a1 a3 a4 h := (rfl)
set_option maxRecDepth 1000000 in
theorem chk_Arrays_fill_AJJ : chkT 19 false prog_22_method_101_code T_Arrays_fill_AJJ = true := by decide +kernel
theorem mc_Arrays_fill_AJJ : mC 273 = prog_22_method_101_code := by rfl
theorem mx_Arrays_fill_AJJ : mL 273 = 5 ∧ mR 273 = none ∧ mK 273 = 0 ∧ (mN 273).cls = cN 19 := by decide +kernel
theorem hD_Arrays_fill_AJJ (N : Nat) {r : MH} : ∀ n pc lv st h, D_Arrays_fill_AJJ N n pc lv st h = some r → ∃ lv', (∀ q ∈ lv', q ∈ lv) ∧ seg (C_Arrays_fill_AJJ N) 5 0 rV T_Arrays_fill_AJJ [0, 6] (fun q lv st h => match Nat.ble (pc + 1) q with
    | true => D_Arrays_fill_AJJ N n q lv st h
    | false => B_Arrays_fill_AJJ N n q lv st h) 400 true pc lv' st h = some r := by
  intro n pc lv st h hf
  unfold D_Arrays_fill_AJJ at hf
  split at hf
  · rename_i hb
    have hb := Nat.eq_of_beq_eq_true hb
    subst hb
    split at hf
    · rename_i y0 y1 y2 e0 e1
      exact ⟨_, (sub_cons e0 (sub_cons e1 sub_nil)), (E_Arrays_fill_AJJ_0 N n _ _ _ h).trans hf⟩
    · cases hf
  · skip
    split at hf
    · rename_i hb
      have hb := Nat.eq_of_beq_eq_true hb
      subst hb
      split at hf
      · rename_i y0 y1 y2 y3 y4 e0 e1 e2 e3
        exact ⟨_, (sub_cons e0 (sub_cons e1 (sub_cons e2 (sub_cons e3 sub_nil)))), (E_Arrays_fill_AJJ_6 N n _ _ _ _ _ h).trans hf⟩
      · cases hf
    · skip
      cases hf
theorem hM_Arrays_fill_AJJ (N : Nat) {r : MH} : ∀ n pc lv st h, D_Arrays_fill_AJJ N n pc lv st h = some r → pc < 23 := by
  intro n pc lv st h hf
  unfold D_Arrays_fill_AJJ at hf
  split at hf
  · rename_i hb
    rw [Nat.eq_of_beq_eq_true hb]
    decide
  · skip
    split at hf
    · rename_i hb
      rw [Nat.eq_of_beq_eq_true hb]
      decide
    · skip
      cases hf
theorem hB_Arrays_fill_AJJ (N : Nat) {r : MH} : ∀ n pc lv st h, B_Arrays_fill_AJJ N n pc lv st h = some r → ∃ k, n = k + 1 ∧ D_Arrays_fill_AJJ N k pc lv st h = some r := by
  intro n pc lv st h hf
  unfold B_Arrays_fill_AJJ at hf
  split at hf
  · rename_i hb
    have hb := Nat.eq_of_beq_eq_true hb
    subst hb
    cases n with
    | zero =>
      split at hf
      · cases hf
      · cases hf
    | succ k =>
      refine ⟨k, rfl, ?_⟩
      exact hf
  · skip
    cases hf
theorem s_Arrays_fill_AJJ {l : Launch} {E : EV} {N : Nat} {as : List MV} {h : MH} {r : MH} (hf : w_Arrays_fill_AJJ (f_Arrays_fill_AJJ N) as h = some r) : SndM l E false 0 273 as h none r := by
  unfold w_Arrays_fill_AJJ at hf
  split at hf
  · obtain ⟨m1, m2, m3, m4⟩ := mx_Arrays_fill_AJJ
    refine snd_of (C := C_Arrays_fill_AJJ N) (own := 19) (rz := 0) (lim := 115) rV_eq m2 m4 pl_273 (TB_in _ cw_273 rfl) ⟨(fun z => by rw [m3] at z; cases z), (fun z => by rw [m3] at z; cases z)⟩ (fun z => by cases z) KDL_take rfl rfl (fun z => by cases z) (fun z => by cases z) (fun _ => rfl) (by rw [m1]; exact Nat.le_of_ble_eq_true rfl)
      (fun _ _ _ _ z => by cases z)
      (fun _ _ _ _ z => by cases z)
      (fun _ _ _ _ z => by cases z)
      (fun _ _ _ _ z => by cases z)
      (fun p e R s m args below meth c Q n0 F hret => ?_)
    rw [m1] at F hret ⊢
    rw [mc_Arrays_fill_AJJ] at F hret
    exact cuts_s (K := 400) (M := 23) (D := D_Arrays_fill_AJJ N) (B := B_Arrays_fill_AJJ N) F hret (chkT_ok chk_Arrays_fill_AJJ) (hM_Arrays_fill_AJJ N) (hB_Arrays_fill_AJJ N) (hD_Arrays_fill_AJJ N) N 0 _ _ _ hf
  · cases hf
def T_Tray_lay : List (List (Option RW)) := [
  [some (.aload_n 0, 1, [0], 0, 0), some (.iload_n 1, 1, [1], 0, 0), some (.putfield 15, 3, [9, 1, 0], 0, 0), none, none, some (.aload_n 0, 1, [0], 0, 0), some (.iload_n 2, 1, [2], 0, 0), some (.putfield 19, 3, [9, 2, 0], 0, 0), none, none, some (.aload_n 0, 1, [0], 0, 0), some (.getfield 9, 3, [9, 0, 2, 2, 60, 1], 0, 0), none, none, some (.lconst 0, 1, [], 0, 0), some (.invokestatic 22, 3, [2, 273, 2, 3], 0, 0), none, none, some (.return_, 1, [], 0, 0)]]
def f_Tray_lay (N : Nat) (r0 : Nat) (a1 : Int32) (a2 : Int32) (h : MH) : Option (MH) :=
  let h1 : MH := sI h r0 1 a1
  let h2 : MH := sI h1 r0 2 a2
  (f_Arrays_fill_AJJ N 60 (r0 + 1) 0 h2).bind (fun x3 =>
  some x3)
def C_Tray_lay (N : Nat) : MC := (KDL, false, (fun _ => 0), jsB, (fun _ _ _ => none), (fun _ _ _ => none), (fun _ _ _ => none), (fun j => match Nat.beq j 273 with
    | true => w_Arrays_fill_AJJ (f_Arrays_fill_AJJ N)
    | false => fun _ _ => none))
def D_Tray_lay (N : Nat) (n pc : Nat) (lv : ML) (st : List MV) (h : MH) : Option (MH) :=
  match Nat.beq pc 0 with
  | true => (match lk lv 0, lk lv 1, lk lv 2, st with
    | some (.inr (.inr (0, 9, r0))), some (.inl a1), some (.inl a2), [] => f_Tray_lay N r0 a1 a2 h
    | _, _, _, _ => none)
  | false => none
set_option maxRecDepth 1000000 in
theorem E_Tray_lay_0 (N : Nat) (n : Nat) (r0 : Nat) (a1 : Int32) (a2 : Int32) (h : MH) : seg (C_Tray_lay N) 3 0 rV T_Tray_lay [0] (fun q lv st h => match Nat.ble 1 q with
    | true => D_Tray_lay N n q lv st h
    | false => none) 400 true 0 [(0, .inr (.inr (0, 9, r0))), (1, .inl a1), (2, .inl a2)] [] h = f_Tray_lay N r0 a1 a2 h := (rfl)
set_option maxRecDepth 1000000 in
theorem chk_Tray_lay : chkT 9 false prog_11_method_3_code T_Tray_lay = true := by decide +kernel
theorem mc_Tray_lay : mC 85 = prog_11_method_3_code := by rfl
theorem mx_Tray_lay : mL 85 = 3 ∧ mR 85 = none ∧ mK 85 = 1 ∧ (mN 85).cls = cN 9 := by decide +kernel
theorem hD_Tray_lay (N : Nat) {r : MH} : ∀ n pc lv st h, D_Tray_lay N n pc lv st h = some r → ∃ lv', (∀ q ∈ lv', q ∈ lv) ∧ seg (C_Tray_lay N) 3 0 rV T_Tray_lay [0] (fun q lv st h => match Nat.ble (pc + 1) q with
    | true => D_Tray_lay N n q lv st h
    | false => none) 400 true pc lv' st h = some r := by
  intro n pc lv st h hf
  unfold D_Tray_lay at hf
  split at hf
  · rename_i hb
    have hb := Nat.eq_of_beq_eq_true hb
    subst hb
    split at hf
    · rename_i y0 y1 y2 e0 e1 e2
      exact ⟨_, (sub_cons e0 (sub_cons e1 (sub_cons e2 sub_nil))), (E_Tray_lay_0 N n _ _ _ h).trans hf⟩
    · cases hf
  · skip
    cases hf
theorem hM_Tray_lay (N : Nat) {r : MH} : ∀ n pc lv st h, D_Tray_lay N n pc lv st h = some r → pc < 19 := by
  intro n pc lv st h hf
  unfold D_Tray_lay at hf
  split at hf
  · rename_i hb
    rw [Nat.eq_of_beq_eq_true hb]
    decide
  · skip
    cases hf
theorem s_Tray_lay {l : Launch} {E : EV} {N : Nat} {as : List MV} {h : MH} {r : MH} (hf : w_Tray_lay (f_Tray_lay N) as h = some r) : SndM l E false 1 85 as h none r := by
  unfold w_Tray_lay at hf
  split at hf
  · obtain ⟨m1, m2, m3, m4⟩ := mx_Tray_lay
    refine snd_of (C := C_Tray_lay N) (own := 9) (rz := 0) (lim := 115) rV_eq m2 m4 pl_85 (TB_in _ cw_85 rfl) ⟨(fun _ => ⟨_, _, _, _, _, _, rfl, rfl, by rw [m4]; rfl⟩), (fun z => by rw [m3] at z; cases z)⟩ (fun z => by cases z) KDL_take rfl rfl (fun z => by cases z) (fun z => by cases z) (fun _ => rfl) (by rw [m1]; exact Nat.le_of_ble_eq_true rfl)
      (fun _ _ _ _ z => by cases z)
      (fun _ _ _ _ z => by cases z)
      (fun _ _ _ _ z => by cases z)
      (fun j as h x z => by
      dsimp only [C_Tray_lay] at z
      cases hb : Nat.beq j 273 with
      | true =>
        have hb := Nat.eq_of_beq_eq_true hb
        subst hb
        exact ⟨0, by decide, (fun z => by cases z), s_Arrays_fill_AJJ z⟩
      | false =>
        rw [hb] at z
        dsimp only at z
        cases z)
      (fun p e R s m args below meth c Q n0 F hret => ?_)
    rw [m1] at F hret ⊢
    rw [mc_Tray_lay] at F hret
    exact cuts_s (K := 400) (M := 19) (D := D_Tray_lay N) (B := fun _ _ _ _ _ => none) F hret (chkT_ok chk_Tray_lay) (hM_Tray_lay N) (fun _ _ _ _ _ z => by cases z) (hD_Tray_lay N) N 0 _ _ _ hf
  · cases hf
def T_Tray_reaches : List (List (Option RW)) := [
  [some (.iload_n 1, 1, [1], 0, 0), some (.aload_n 0, 1, [0], 0, 0), some (.getfield 19, 3, [9, 2, 0], 0, 0), none, none, some (.if_icmp .gt 17, 3, [22], 0, 0), none, none, some (.iload_n 2, 1, [2], 0, 0), some (.aload_n 0, 1, [0], 0, 0), some (.getfield 19, 3, [9, 2, 0], 0, 0), none, none, some (.iload_n 1, 1, [1], 0, 0), some (.isub, 1, [], 0, 0), some (.if_icmp .gt 7, 3, [22], 0, 0), none, none, some (.iconst 1, 1, [], 1, 0), some (.goto 4, 3, [23], 0, 0), none, none, some (.iconst 0, 1, [], 0, 0), some (.ireturn, 1, [], 0, 0)]]
def f_Tray_reaches (N : Nat) (r0 : Nat) (a1 : Int32) (a2 : Int32) (h : MH) : Option (Int32 × MH) :=
  if (gI h r0 2) < a1 then
  (some (0, h))
  else
  (if ((gI h r0 2) - a1) < a2 then
  (some (0, h))
  else
  (some (1, h)))
def C_Tray_reaches (N : Nat) : MC := (KDL, false, (fun _ => 0), jsB, (fun _ _ _ => none), (fun _ _ _ => none), (fun _ _ _ => none), (fun _ _ _ => none))
def D_Tray_reaches (N : Nat) (n pc : Nat) (lv : ML) (st : List MV) (h : MH) : Option (Int32 × MH) :=
  match Nat.beq pc 0 with
  | true => (match lk lv 0, lk lv 1, lk lv 2, st with
    | some (.inr (.inr (0, 9, r0))), some (.inl a1), some (.inl a2), [] => f_Tray_reaches N r0 a1 a2 h
    | _, _, _, _ => none)
  | false => none
set_option maxRecDepth 1000000 in
theorem E_Tray_reaches_0 (N : Nat) (n : Nat) (r0 : Nat) (a1 : Int32) (a2 : Int32) (h : MH) : seg (C_Tray_reaches N) 3 1 rI T_Tray_reaches [0] (fun q lv st h => match Nat.ble 1 q with
    | true => D_Tray_reaches N n q lv st h
    | false => none) 400 true 0 [(0, .inr (.inr (0, 9, r0))), (1, .inl a1), (2, .inl a2)] [] h = f_Tray_reaches N r0 a1 a2 h := (rfl)
set_option maxRecDepth 1000000 in
theorem chk_Tray_reaches : chkT 9 false prog_11_method_4_code T_Tray_reaches = true := by decide +kernel
theorem mc_Tray_reaches : mC 86 = prog_11_method_4_code := by rfl
theorem mx_Tray_reaches : mL 86 = 3 ∧ mR 86 = some .boolean ∧ mK 86 = 1 ∧ (mN 86).cls = cN 9 := by decide +kernel
theorem hD_Tray_reaches (N : Nat) {r : Int32 × MH} : ∀ n pc lv st h, D_Tray_reaches N n pc lv st h = some r → ∃ lv', (∀ q ∈ lv', q ∈ lv) ∧ seg (C_Tray_reaches N) 3 1 rI T_Tray_reaches [0] (fun q lv st h => match Nat.ble (pc + 1) q with
    | true => D_Tray_reaches N n q lv st h
    | false => none) 400 true pc lv' st h = some r := by
  intro n pc lv st h hf
  unfold D_Tray_reaches at hf
  split at hf
  · rename_i hb
    have hb := Nat.eq_of_beq_eq_true hb
    subst hb
    split at hf
    · rename_i y0 y1 y2 e0 e1 e2
      exact ⟨_, (sub_cons e0 (sub_cons e1 (sub_cons e2 sub_nil))), (E_Tray_reaches_0 N n _ _ _ h).trans hf⟩
    · cases hf
  · skip
    cases hf
theorem hM_Tray_reaches (N : Nat) {r : Int32 × MH} : ∀ n pc lv st h, D_Tray_reaches N n pc lv st h = some r → pc < 24 := by
  intro n pc lv st h hf
  unfold D_Tray_reaches at hf
  split at hf
  · rename_i hb
    rw [Nat.eq_of_beq_eq_true hb]
    decide
  · skip
    cases hf
theorem s_Tray_reaches {l : Launch} {E : EV} {N : Nat} {as : List MV} {h : MH} {r : Int32 × MH} (hf : w_Tray_reaches (f_Tray_reaches N) as h = some r) : SndM l E false 0 86 as h (some (.inl r.1)) r.2 := by
  unfold w_Tray_reaches at hf
  split at hf
  · obtain ⟨m1, m2, m3, m4⟩ := mx_Tray_reaches
    refine snd_of (C := C_Tray_reaches N) (own := 9) (rz := 1) (lim := 115) rI_eq m2 m4 pl_86 (TB_in _ cw_86 rfl) ⟨(fun _ => ⟨_, _, _, _, _, _, rfl, rfl, by rw [m4]; rfl⟩), (fun z => by rw [m3] at z; cases z)⟩ (fun z => by cases z) KDL_take rfl rfl (fun z => by cases z) (fun z => by cases z) (fun _ => rfl) (by rw [m1]; exact Nat.le_of_ble_eq_true rfl)
      (fun _ _ _ _ z => by cases z)
      (fun _ _ _ _ z => by cases z)
      (fun _ _ _ _ z => by cases z)
      (fun _ _ _ _ z => by cases z)
      (fun p e R s m args below meth c Q n0 F hret => ?_)
    rw [m1] at F hret ⊢
    rw [mc_Tray_reaches] at F hret
    exact cuts_s (K := 400) (M := 24) (D := D_Tray_reaches N) (B := fun _ _ _ _ _ => none) F hret (chkT_ok chk_Tray_reaches) (hM_Tray_reaches N) (fun _ _ _ _ _ z => by cases z) (hD_Tray_reaches N) N 0 _ _ _ hf
  · cases hf
def T_Tray_put : List (List (Option RW)) := [
  [some (.iload_n 1, 1, [1], 0, 0), some (.bipush 60, 2, [], 60, 0), none, some (.invokestatic 28, 3, [3, 151, 2, 0], 0, 0), none, none, some (.ifCond .ne 4, 3, [10], 0, 0), none, none, some (.return_, 1, [], 0, 0), some (.aload_n 0, 1, [0], 0, 0), some (.getfield 15, 3, [9, 1, 0], 0, 0), none, none, some (.ifCond .ne 16, 3, [30], 0, 0), none, none, some (.aload_n 0, 1, [0], 0, 0), some (.getfield 9, 3, [9, 0, 2, 2, 60, 1], 0, 0), none, none, some (.iload_n 1, 1, [1], 0, 0), some (.lload_n 2, 1, [2], 0, 0), some (.l2i, 1, [], 0, 0), some (.i2b, 1, [], 0, 0), some (.i2l, 1, [], 0, 0), some (.lastore, 1, [], 0, 0), some (.goto 51, 3, [78], 0, 0), none, none, some (.aload_n 0, 1, [0], 0, 0), some (.getfield 15, 3, [9, 1, 0], 0, 0)],
  [none, none, some (.iconst 1, 1, [], 1, 0), some (.if_icmp .ne 16, 3, [51], 0, 0), none, none, some (.aload_n 0, 1, [0], 0, 0), some (.getfield 9, 3, [9, 0, 2, 2, 60, 1], 0, 0), none, none, some (.iload_n 1, 1, [1], 0, 0), some (.lload_n 2, 1, [2], 0, 0), some (.l2i, 1, [], 0, 0), some (.i2s, 1, [], 0, 0), some (.i2l, 1, [], 0, 0), some (.lastore, 1, [], 0, 0), some (.goto 30, 3, [78], 0, 0), none, none, some (.aload_n 0, 1, [0], 0, 0), some (.getfield 15, 3, [9, 1, 0], 0, 0), none, none, some (.iconst 2, 1, [], 2, 0), some (.if_icmp .ne 15, 3, [71], 0, 0), none, none, some (.aload_n 0, 1, [0], 0, 0), some (.getfield 9, 3, [9, 0, 2, 2, 60, 1], 0, 0), none, none, some (.iload_n 1, 1, [1], 0, 0)],
  [some (.lload_n 2, 1, [2], 0, 0), some (.l2i, 1, [], 0, 0), some (.i2l, 1, [], 0, 0), some (.lastore, 1, [], 0, 0), some (.goto 10, 3, [78], 0, 0), none, none, some (.aload_n 0, 1, [0], 0, 0), some (.getfield 9, 3, [9, 0, 2, 2, 60, 1], 0, 0), none, none, some (.iload_n 1, 1, [1], 0, 0), some (.lload_n 2, 1, [2], 0, 0), some (.lastore, 1, [], 0, 0), some (.return_, 1, [], 0, 0)]]
def f_Tray_put (N : Nat) (r0 : Nat) (a1 : Int32) (a2 : Int64) (h : MH) : Option (MH) :=
  (f_S_isOneOf N a1 60 h).bind (fun x1 =>
  if x1.1 = 0 then
  (some x1.2)
  else
  (if (gI x1.2 r0 1) = 0 then
  (if inB a1 60 = true then
  (let h2 : MH := sJ x1.2 (r0 + 1) (iN a1) (((((Int64.toInt32 a2)).toInt8.toInt32)).toInt64)
  some h2)
  else none)
  else
  (if (gI x1.2 r0 1) = 1 then
  (if inB a1 60 = true then
  (let h3 : MH := sJ x1.2 (r0 + 1) (iN a1) (((((Int64.toInt32 a2)).toInt16.toInt32)).toInt64)
  some h3)
  else none)
  else
  (if (gI x1.2 r0 1) = 2 then
  (if inB a1 60 = true then
  (let h4 : MH := sJ x1.2 (r0 + 1) (iN a1) (((Int64.toInt32 a2)).toInt64)
  some h4)
  else none)
  else
  (if inB a1 60 = true then
  (let h5 : MH := sJ x1.2 (r0 + 1) (iN a1) a2
  some h5)
  else none)))))
def C_Tray_put (N : Nat) : MC := (KDL, false, (fun _ => 0), jsB, (fun j => match Nat.beq j 151 with
    | true => w_S_isOneOf (f_S_isOneOf N)
    | false => fun _ _ => none), (fun _ _ _ => none), (fun _ _ _ => none), (fun _ _ _ => none))
def D_Tray_put (N : Nat) (n pc : Nat) (lv : ML) (st : List MV) (h : MH) : Option (MH) :=
  match Nat.beq pc 0 with
  | true => (match lk lv 0, lk lv 1, lk lv 2, st with
    | some (.inr (.inr (0, 9, r0))), some (.inl a1), some (.inr (.inl a2)), [] => f_Tray_put N r0 a1 a2 h
    | _, _, _, _ => none)
  | false => none
set_option maxRecDepth 1000000 in
theorem E_Tray_put_0 (N : Nat) (n : Nat) (r0 : Nat) (a1 : Int32) (a2 : Int64) (h : MH) : seg (C_Tray_put N) 4 0 rV T_Tray_put [0] (fun q lv st h => match Nat.ble 1 q with
    | true => D_Tray_put N n q lv st h
    | false => none) 400 true 0 [(0, .inr (.inr (0, 9, r0))), (1, .inl a1), (2, .inr (.inl a2))] [] h = f_Tray_put N r0 a1 a2 h := (rfl)
set_option maxRecDepth 1000000 in
theorem chk_Tray_put : chkT 9 false prog_11_method_6_code T_Tray_put = true := by decide +kernel
theorem mc_Tray_put : mC 88 = prog_11_method_6_code := by rfl
theorem mx_Tray_put : mL 88 = 4 ∧ mR 88 = none ∧ mK 88 = 1 ∧ (mN 88).cls = cN 9 := by decide +kernel
theorem hD_Tray_put (N : Nat) {r : MH} : ∀ n pc lv st h, D_Tray_put N n pc lv st h = some r → ∃ lv', (∀ q ∈ lv', q ∈ lv) ∧ seg (C_Tray_put N) 4 0 rV T_Tray_put [0] (fun q lv st h => match Nat.ble (pc + 1) q with
    | true => D_Tray_put N n q lv st h
    | false => none) 400 true pc lv' st h = some r := by
  intro n pc lv st h hf
  unfold D_Tray_put at hf
  split at hf
  · rename_i hb
    have hb := Nat.eq_of_beq_eq_true hb
    subst hb
    split at hf
    · rename_i y0 y1 y2 e0 e1 e2
      exact ⟨_, (sub_cons e0 (sub_cons e1 (sub_cons e2 sub_nil))), (E_Tray_put_0 N n _ _ _ h).trans hf⟩
    · cases hf
  · skip
    cases hf
theorem hM_Tray_put (N : Nat) {r : MH} : ∀ n pc lv st h, D_Tray_put N n pc lv st h = some r → pc < 79 := by
  intro n pc lv st h hf
  unfold D_Tray_put at hf
  split at hf
  · rename_i hb
    rw [Nat.eq_of_beq_eq_true hb]
    decide
  · skip
    cases hf
theorem s_Tray_put {l : Launch} {E : EV} {N : Nat} {as : List MV} {h : MH} {r : MH} (hf : w_Tray_put (f_Tray_put N) as h = some r) : SndM l E false 1 88 as h none r := by
  unfold w_Tray_put at hf
  split at hf
  · obtain ⟨m1, m2, m3, m4⟩ := mx_Tray_put
    refine snd_of (C := C_Tray_put N) (own := 9) (rz := 0) (lim := 115) rV_eq m2 m4 pl_88 (TB_in _ cw_88 rfl) ⟨(fun _ => ⟨_, _, _, _, _, _, rfl, rfl, by rw [m4]; rfl⟩), (fun z => by rw [m3] at z; cases z)⟩ (fun z => by cases z) KDL_take rfl rfl (fun z => by cases z) (fun z => by cases z) (fun _ => rfl) (by rw [m1]; exact Nat.le_of_ble_eq_true rfl)
      (fun j as h x z => by
      dsimp only [C_Tray_put] at z
      cases hb : Nat.beq j 151 with
      | true =>
        have hb := Nat.eq_of_beq_eq_true hb
        subst hb
        exact ⟨0, by decide, (fun z => by cases z), s_S_isOneOf z⟩
      | false =>
        rw [hb] at z
        dsimp only at z
        cases z)
      (fun _ _ _ _ z => by cases z)
      (fun _ _ _ _ z => by cases z)
      (fun _ _ _ _ z => by cases z)
      (fun p e R s m args below meth c Q n0 F hret => ?_)
    rw [m1] at F hret ⊢
    rw [mc_Tray_put] at F hret
    exact cuts_s (K := 400) (M := 79) (D := D_Tray_put N) (B := fun _ _ _ _ _ => none) F hret (chkT_ok chk_Tray_put) (hM_Tray_put N) (fun _ _ _ _ _ z => by cases z) (hD_Tray_put N) N 0 _ _ _ hf
  · cases hf
def T_Tray_allWithin : List (List (Option RW)) := [
  [some (.iconst 0, 1, [], 0, 0), some (.istore 4, 2, [4], 0, 0), none, some (.iload 4, 2, [4], 0, 0), none, some (.iload_n 1, 1, [1], 0, 0), some (.if_icmp .ge 35, 3, [41], 0, 0), none, none, some (.aload_n 0, 1, [0], 0, 0), some (.iload 4, 2, [4], 0, 0), none, some (.invokevirtual 34, 3, [0, 87, 2, 1], 0, 0), none, none, some (.iload_n 2, 1, [2], 0, 0), some (.i2l, 1, [], 0, 0), some (.lcmp, 1, [], 0, 0), some (.ifCond .lt 15, 3, [33], 0, 0), none, none, some (.aload_n 0, 1, [0], 0, 0), some (.iload 4, 2, [4], 0, 0), none, some (.invokevirtual 34, 3, [0, 87, 2, 1], 0, 0), none, none, some (.iload_n 3, 1, [3], 0, 0), some (.i2l, 1, [], 0, 0), some (.lcmp, 1, [], 0, 0), some (.ifCond .le 5, 3, [35], 0, 0), none],
  [none, some (.iconst 0, 1, [], 0, 0), some (.ireturn, 1, [], 0, 0), some (.iinc 4 1, 3, [4], 1, 0), none, none, some (.goto (-35), 3, [3], 0, 0), none, none, some (.iconst 1, 1, [], 1, 0), some (.ireturn, 1, [], 0, 0)]]
def F_Tray_allWithin_3 (N : Nat) (bk : (Nat → Int32 → Int32 → Int32 → Int32 → MH → Option (Int32 × MH))) (r0 : Nat) (a1 : Int32) (a2 : Int32) (a3 : Int32) (a4 : Int32) (h : MH) : Option (Int32 × MH) :=
  if a1 ≤ a4 then
  (some (1, h))
  else
  ((f_Tray_at N r0 a4 h).bind (fun x1 =>
  if (lg_cmp x1.1 a2.toInt64) < 0 then
  (some (0, x1.2))
  else
  ((f_Tray_at N r0 a4 x1.2).bind (fun x2 =>
  if (lg_cmp x2.1 a3.toInt64) ≤ 0 then
  (let v3 : Int32 := a4 + 1
  bk r0 a1 a2 a3 v3 x2.2)
  else
  (some (0, x2.2))))))
def F_Tray_allWithin_0 (N : Nat) (bk : (Nat → Int32 → Int32 → Int32 → Int32 → MH → Option (Int32 × MH))) (r0 : Nat) (a1 : Int32) (a2 : Int32) (a3 : Int32) (h : MH) : Option (Int32 × MH) :=
  F_Tray_allWithin_3 N bk r0 a1 a2 a3 0 h
def L_Tray_allWithin (N : Nat) : Nat → (Nat → Int32 → Int32 → Int32 → Int32 → MH → Option (Int32 × MH))
  | 0 => fun _ _ _ _ _ _ => none
  | n + 1 => F_Tray_allWithin_3 N (L_Tray_allWithin N n)
def f_Tray_allWithin (N : Nat) (r0 : Nat) (a1 : Int32) (a2 : Int32) (a3 : Int32) (h : MH) : Option (Int32 × MH) := F_Tray_allWithin_0 N (L_Tray_allWithin N N) r0 a1 a2 a3 h
def C_Tray_allWithin (N : Nat) : MC := (KDL, false, (fun _ => 0), jsB, (fun _ _ _ => none), (fun j => match Nat.beq j 87 with
    | true => w_Tray_at (f_Tray_at N)
    | false => fun _ _ => none), (fun _ _ _ => none), (fun _ _ _ => none))
def D_Tray_allWithin (N : Nat) (n pc : Nat) (lv : ML) (st : List MV) (h : MH) : Option (Int32 × MH) :=
  match Nat.beq pc 0 with
  | true => (match lk lv 0, lk lv 1, lk lv 2, lk lv 3, st with
    | some (.inr (.inr (0, 9, r0))), some (.inl a1), some (.inl a2), some (.inl a3), [] => F_Tray_allWithin_0 N (L_Tray_allWithin N n) r0 a1 a2 a3 h
    | _, _, _, _, _ => none)
  | false => match Nat.beq pc 3 with
  | true => (match lk lv 0, lk lv 1, lk lv 2, lk lv 3, lk lv 4, st with
    | some (.inr (.inr (0, 9, r0))), some (.inl a1), some (.inl a2), some (.inl a3), some (.inl a4), [] => F_Tray_allWithin_3 N (L_Tray_allWithin N n) r0 a1 a2 a3 a4 h
    | _, _, _, _, _, _ => none)
  | false => none
def B_Tray_allWithin (N : Nat) (n pc : Nat) (lv : ML) (st : List MV) (h : MH) : Option (Int32 × MH) :=
  match Nat.beq pc 3 with
  | true => (match lk lv 0, lk lv 1, lk lv 2, lk lv 3, lk lv 4, st with
    | some (.inr (.inr (0, 9, r0))), some (.inl a1), some (.inl a2), some (.inl a3), some (.inl a4), [] => ((L_Tray_allWithin N n)) r0 a1 a2 a3 a4 h
    | _, _, _, _, _, _ => none)
  | false => none
set_option maxRecDepth 1000000 in
theorem E_Tray_allWithin_0 (N : Nat) (n : Nat) (r0 : Nat) (a1 : Int32) (a2 : Int32) (a3 : Int32) (h : MH) : seg (C_Tray_allWithin N) 5 1 rI T_Tray_allWithin [0, 3] (fun q lv st h => match Nat.ble 1 q with
    | true => D_Tray_allWithin N n q lv st h
    | false => B_Tray_allWithin N n q lv st h) 400 true 0 [(0, .inr (.inr (0, 9, r0))), (1, .inl a1), (2, .inl a2), (3, .inl a3)] [] h = F_Tray_allWithin_0 N (L_Tray_allWithin N n) r0 a1 a2 a3 h := (rfl)
set_option maxRecDepth 1000000 in
theorem E_Tray_allWithin_3 (N : Nat) (n : Nat) (r0 : Nat) (a1 : Int32) (a2 : Int32) (a3 : Int32) (a4 : Int32) (h : MH) : seg (C_Tray_allWithin N) 5 1 rI T_Tray_allWithin [0, 3] (fun q lv st h => match Nat.ble 4 q with
    | true => D_Tray_allWithin N n q lv st h
    | false => B_Tray_allWithin N n q lv st h) 400 true 3 [(0, .inr (.inr (0, 9, r0))), (1, .inl a1), (2, .inl a2), (3, .inl a3), (4, .inl a4)] [] h = F_Tray_allWithin_3 N (L_Tray_allWithin N n) r0 a1 a2 a3 a4 h := (rfl)
set_option maxRecDepth 1000000 in
theorem chk_Tray_allWithin : chkT 9 false prog_11_method_7_code T_Tray_allWithin = true := by decide +kernel
theorem mc_Tray_allWithin : mC 89 = prog_11_method_7_code := by rfl
theorem mx_Tray_allWithin : mL 89 = 5 ∧ mR 89 = some .boolean ∧ mK 89 = 1 ∧ (mN 89).cls = cN 9 := by decide +kernel
theorem hD_Tray_allWithin (N : Nat) {r : Int32 × MH} : ∀ n pc lv st h, D_Tray_allWithin N n pc lv st h = some r → ∃ lv', (∀ q ∈ lv', q ∈ lv) ∧ seg (C_Tray_allWithin N) 5 1 rI T_Tray_allWithin [0, 3] (fun q lv st h => match Nat.ble (pc + 1) q with
    | true => D_Tray_allWithin N n q lv st h
    | false => B_Tray_allWithin N n q lv st h) 400 true pc lv' st h = some r := by
  intro n pc lv st h hf
  unfold D_Tray_allWithin at hf
  split at hf
  · rename_i hb
    have hb := Nat.eq_of_beq_eq_true hb
    subst hb
    split at hf
    · rename_i y0 y1 y2 y3 e0 e1 e2 e3
      exact ⟨_, (sub_cons e0 (sub_cons e1 (sub_cons e2 (sub_cons e3 sub_nil)))), (E_Tray_allWithin_0 N n _ _ _ _ h).trans hf⟩
    · cases hf
  · skip
    split at hf
    · rename_i hb
      have hb := Nat.eq_of_beq_eq_true hb
      subst hb
      split at hf
      · rename_i y0 y1 y2 y3 y4 e0 e1 e2 e3 e4
        exact ⟨_, (sub_cons e0 (sub_cons e1 (sub_cons e2 (sub_cons e3 (sub_cons e4 sub_nil))))), (E_Tray_allWithin_3 N n _ _ _ _ _ h).trans hf⟩
      · cases hf
    · skip
      cases hf
theorem hM_Tray_allWithin (N : Nat) {r : Int32 × MH} : ∀ n pc lv st h, D_Tray_allWithin N n pc lv st h = some r → pc < 43 := by
  intro n pc lv st h hf
  unfold D_Tray_allWithin at hf
  split at hf
  · rename_i hb
    rw [Nat.eq_of_beq_eq_true hb]
    decide
  · skip
    split at hf
    · rename_i hb
      rw [Nat.eq_of_beq_eq_true hb]
      decide
    · skip
      cases hf
theorem hB_Tray_allWithin (N : Nat) {r : Int32 × MH} : ∀ n pc lv st h, B_Tray_allWithin N n pc lv st h = some r → ∃ k, n = k + 1 ∧ D_Tray_allWithin N k pc lv st h = some r := by
  intro n pc lv st h hf
  unfold B_Tray_allWithin at hf
  split at hf
  · rename_i hb
    have hb := Nat.eq_of_beq_eq_true hb
    subst hb
    cases n with
    | zero =>
      split at hf
      · cases hf
      · cases hf
    | succ k =>
      refine ⟨k, rfl, ?_⟩
      exact hf
  · skip
    cases hf
theorem s_Tray_allWithin {l : Launch} {E : EV} {N : Nat} {as : List MV} {h : MH} {r : Int32 × MH} (hf : w_Tray_allWithin (f_Tray_allWithin N) as h = some r) : SndM l E false 2 89 as h (some (.inl r.1)) r.2 := by
  unfold w_Tray_allWithin at hf
  split at hf
  · obtain ⟨m1, m2, m3, m4⟩ := mx_Tray_allWithin
    refine snd_of (C := C_Tray_allWithin N) (own := 9) (rz := 1) (lim := 115) rI_eq m2 m4 pl_89 (TB_in _ cw_89 rfl) ⟨(fun _ => ⟨_, _, _, _, _, _, rfl, rfl, by rw [m4]; rfl⟩), (fun z => by rw [m3] at z; cases z)⟩ (fun z => by cases z) KDL_take rfl rfl (fun z => by cases z) (fun z => by cases z) (fun _ => rfl) (by rw [m1]; exact Nat.le_of_ble_eq_true rfl)
      (fun _ _ _ _ z => by cases z)
      (fun j as h x z => by
      dsimp only [C_Tray_allWithin] at z
      cases hb : Nat.beq j 87 with
      | true =>
        have hb := Nat.eq_of_beq_eq_true hb
        subst hb
        exact ⟨1, by decide, (fun z => by cases z), s_Tray_at z⟩
      | false =>
        rw [hb] at z
        dsimp only at z
        cases z)
      (fun _ _ _ _ z => by cases z)
      (fun _ _ _ _ z => by cases z)
      (fun p e R s m args below meth c Q n0 F hret => ?_)
    rw [m1] at F hret ⊢
    rw [mc_Tray_allWithin] at F hret
    exact cuts_s (K := 400) (M := 43) (D := D_Tray_allWithin N) (B := B_Tray_allWithin N) F hret (chkT_ok chk_Tray_allWithin) (hM_Tray_allWithin N) (hB_Tray_allWithin N) (hD_Tray_allWithin N) N 0 _ _ _ hf
  · cases hf
def T_Tray_sumOf : List (List (Option RW)) := [
  [some (.iconst 0, 1, [], 0, 0), some (.istore_n 3, 1, [3], 0, 0), some (.iconst 0, 1, [], 0, 0), some (.istore 4, 2, [4], 0, 0), none, some (.iload 4, 2, [4], 0, 0), none, some (.iload_n 2, 1, [2], 0, 0), some (.if_icmp .ge 28, 3, [36], 0, 0), none, none, some (.iload_n 1, 1, [1], 0, 0), some (.iload 4, 2, [4], 0, 0), none, some (.ishr, 1, [], 0, 0), some (.iconst 1, 1, [], 1, 0), some (.iand, 1, [], 0, 0), some (.ifCond .eq 13, 3, [30], 0, 0), none, none, some (.iload_n 3, 1, [3], 0, 0), some (.aload_n 0, 1, [0], 0, 0), some (.iload 4, 2, [4], 0, 0), none, some (.invokevirtual 34, 3, [0, 87, 2, 1], 0, 0), none, none, some (.l2i, 1, [], 0, 0), some (.iadd, 1, [], 0, 0), some (.istore_n 3, 1, [3], 0, 0), some (.iinc 4 1, 3, [4], 1, 0), none],
  [none, some (.goto (-28), 3, [5], 0, 0), none, none, some (.iload_n 3, 1, [3], 0, 0), some (.ireturn, 1, [], 0, 0)]]
def F_Tray_sumOf_5 (N : Nat) (bk : (Nat → Int32 → Int32 → Int32 → Int32 → MH → Option (Int32 × MH))) (r0 : Nat) (a1 : Int32) (a2 : Int32) (a3 : Int32) (a4 : Int32) (h : MH) : Option (Int32 × MH) :=
  if a2 ≤ a4 then
  (some (a3, h))
  else
  (if ((a1 >>> (a4 &&& 31)) &&& 1) = 0 then
  (let v1 : Int32 := a4 + 1
  bk r0 a1 a2 a3 v1 h)
  else
  ((f_Tray_at N r0 a4 h).bind (fun x2 =>
  let v3 : Int32 := a3 + (Int64.toInt32 x2.1)
  let v4 : Int32 := a4 + 1
  bk r0 a1 a2 v3 v4 x2.2)))
def F_Tray_sumOf_0 (N : Nat) (bk : (Nat → Int32 → Int32 → Int32 → Int32 → MH → Option (Int32 × MH))) (r0 : Nat) (a1 : Int32) (a2 : Int32) (h : MH) : Option (Int32 × MH) :=
  F_Tray_sumOf_5 N bk r0 a1 a2 0 0 h
def L_Tray_sumOf (N : Nat) : Nat → (Nat → Int32 → Int32 → Int32 → Int32 → MH → Option (Int32 × MH))
  | 0 => fun _ _ _ _ _ _ => none
  | n + 1 => F_Tray_sumOf_5 N (L_Tray_sumOf N n)
def f_Tray_sumOf (N : Nat) (r0 : Nat) (a1 : Int32) (a2 : Int32) (h : MH) : Option (Int32 × MH) := F_Tray_sumOf_0 N (L_Tray_sumOf N N) r0 a1 a2 h
def C_Tray_sumOf (N : Nat) : MC := (KDL, false, (fun _ => 0), jsB, (fun _ _ _ => none), (fun j => match Nat.beq j 87 with
    | true => w_Tray_at (f_Tray_at N)
    | false => fun _ _ => none), (fun _ _ _ => none), (fun _ _ _ => none))
def D_Tray_sumOf (N : Nat) (n pc : Nat) (lv : ML) (st : List MV) (h : MH) : Option (Int32 × MH) :=
  match Nat.beq pc 0 with
  | true => (match lk lv 0, lk lv 1, lk lv 2, st with
    | some (.inr (.inr (0, 9, r0))), some (.inl a1), some (.inl a2), [] => F_Tray_sumOf_0 N (L_Tray_sumOf N n) r0 a1 a2 h
    | _, _, _, _ => none)
  | false => match Nat.beq pc 5 with
  | true => (match lk lv 0, lk lv 1, lk lv 2, lk lv 3, lk lv 4, st with
    | some (.inr (.inr (0, 9, r0))), some (.inl a1), some (.inl a2), some (.inl a3), some (.inl a4), [] => F_Tray_sumOf_5 N (L_Tray_sumOf N n) r0 a1 a2 a3 a4 h
    | _, _, _, _, _, _ => none)
  | false => none
def B_Tray_sumOf (N : Nat) (n pc : Nat) (lv : ML) (st : List MV) (h : MH) : Option (Int32 × MH) :=
  match Nat.beq pc 5 with
  | true => (match lk lv 0, lk lv 1, lk lv 2, lk lv 3, lk lv 4, st with
    | some (.inr (.inr (0, 9, r0))), some (.inl a1), some (.inl a2), some (.inl a3), some (.inl a4), [] => ((L_Tray_sumOf N n)) r0 a1 a2 a3 a4 h
    | _, _, _, _, _, _ => none)
  | false => none
set_option maxRecDepth 1000000 in
theorem E_Tray_sumOf_0 (N : Nat) (n : Nat) (r0 : Nat) (a1 : Int32) (a2 : Int32) (h : MH) : seg (C_Tray_sumOf N) 5 0 rI T_Tray_sumOf [0, 5] (fun q lv st h => match Nat.ble 1 q with
    | true => D_Tray_sumOf N n q lv st h
    | false => B_Tray_sumOf N n q lv st h) 400 true 0 [(0, .inr (.inr (0, 9, r0))), (1, .inl a1), (2, .inl a2)] [] h = F_Tray_sumOf_0 N (L_Tray_sumOf N n) r0 a1 a2 h := (rfl)
set_option maxRecDepth 1000000 in
theorem E_Tray_sumOf_5 (N : Nat) (n : Nat) (r0 : Nat) (a1 : Int32) (a2 : Int32) (a3 : Int32) (a4 : Int32) (h : MH) : seg (C_Tray_sumOf N) 5 0 rI T_Tray_sumOf [0, 5] (fun q lv st h => match Nat.ble 6 q with
    | true => D_Tray_sumOf N n q lv st h
    | false => B_Tray_sumOf N n q lv st h) 400 true 5 [(0, .inr (.inr (0, 9, r0))), (1, .inl a1), (2, .inl a2), (3, .inl a3), (4, .inl a4)] [] h = F_Tray_sumOf_5 N (L_Tray_sumOf N n) r0 a1 a2 a3 a4 h := (rfl)
set_option maxRecDepth 1000000 in
theorem chk_Tray_sumOf : chkT 9 false prog_11_method_8_code T_Tray_sumOf = true := by decide +kernel
theorem mc_Tray_sumOf : mC 90 = prog_11_method_8_code := by rfl
theorem mx_Tray_sumOf : mL 90 = 5 ∧ mR 90 = some .int ∧ mK 90 = 1 ∧ (mN 90).cls = cN 9 := by decide +kernel
theorem hD_Tray_sumOf (N : Nat) {r : Int32 × MH} : ∀ n pc lv st h, D_Tray_sumOf N n pc lv st h = some r → ∃ lv', (∀ q ∈ lv', q ∈ lv) ∧ seg (C_Tray_sumOf N) 5 0 rI T_Tray_sumOf [0, 5] (fun q lv st h => match Nat.ble (pc + 1) q with
    | true => D_Tray_sumOf N n q lv st h
    | false => B_Tray_sumOf N n q lv st h) 400 true pc lv' st h = some r := by
  intro n pc lv st h hf
  unfold D_Tray_sumOf at hf
  split at hf
  · rename_i hb
    have hb := Nat.eq_of_beq_eq_true hb
    subst hb
    split at hf
    · rename_i y0 y1 y2 e0 e1 e2
      exact ⟨_, (sub_cons e0 (sub_cons e1 (sub_cons e2 sub_nil))), (E_Tray_sumOf_0 N n _ _ _ h).trans hf⟩
    · cases hf
  · skip
    split at hf
    · rename_i hb
      have hb := Nat.eq_of_beq_eq_true hb
      subst hb
      split at hf
      · rename_i y0 y1 y2 y3 y4 e0 e1 e2 e3 e4
        exact ⟨_, (sub_cons e0 (sub_cons e1 (sub_cons e2 (sub_cons e3 (sub_cons e4 sub_nil))))), (E_Tray_sumOf_5 N n _ _ _ _ _ h).trans hf⟩
      · cases hf
    · skip
      cases hf
theorem hM_Tray_sumOf (N : Nat) {r : Int32 × MH} : ∀ n pc lv st h, D_Tray_sumOf N n pc lv st h = some r → pc < 38 := by
  intro n pc lv st h hf
  unfold D_Tray_sumOf at hf
  split at hf
  · rename_i hb
    rw [Nat.eq_of_beq_eq_true hb]
    decide
  · skip
    split at hf
    · rename_i hb
      rw [Nat.eq_of_beq_eq_true hb]
      decide
    · skip
      cases hf
theorem hB_Tray_sumOf (N : Nat) {r : Int32 × MH} : ∀ n pc lv st h, B_Tray_sumOf N n pc lv st h = some r → ∃ k, n = k + 1 ∧ D_Tray_sumOf N k pc lv st h = some r := by
  intro n pc lv st h hf
  unfold B_Tray_sumOf at hf
  split at hf
  · rename_i hb
    have hb := Nat.eq_of_beq_eq_true hb
    subst hb
    cases n with
    | zero =>
      split at hf
      · cases hf
      · cases hf
    | succ k =>
      refine ⟨k, rfl, ?_⟩
      exact hf
  · skip
    cases hf
theorem s_Tray_sumOf {l : Launch} {E : EV} {N : Nat} {as : List MV} {h : MH} {r : Int32 × MH} (hf : w_Tray_sumOf (f_Tray_sumOf N) as h = some r) : SndM l E false 2 90 as h (some (.inl r.1)) r.2 := by
  unfold w_Tray_sumOf at hf
  split at hf
  · obtain ⟨m1, m2, m3, m4⟩ := mx_Tray_sumOf
    refine snd_of (C := C_Tray_sumOf N) (own := 9) (rz := 0) (lim := 115) rI_eq m2 m4 pl_90 (TB_in _ cw_90 rfl) ⟨(fun _ => ⟨_, _, _, _, _, _, rfl, rfl, by rw [m4]; rfl⟩), (fun z => by rw [m3] at z; cases z)⟩ (fun z => by cases z) KDL_take rfl rfl (fun z => by cases z) (fun z => by cases z) (fun _ => rfl) (by rw [m1]; exact Nat.le_of_ble_eq_true rfl)
      (fun _ _ _ _ z => by cases z)
      (fun j as h x z => by
      dsimp only [C_Tray_sumOf] at z
      cases hb : Nat.beq j 87 with
      | true =>
        have hb := Nat.eq_of_beq_eq_true hb
        subst hb
        exact ⟨1, by decide, (fun z => by cases z), s_Tray_at z⟩
      | false =>
        rw [hb] at z
        dsimp only at z
        cases z)
      (fun _ _ _ _ z => by cases z)
      (fun _ _ _ _ z => by cases z)
      (fun p e R s m args below meth c Q n0 F hret => ?_)
    rw [m1] at F hret ⊢
    rw [mc_Tray_sumOf] at F hret
    exact cuts_s (K := 400) (M := 38) (D := D_Tray_sumOf N) (B := B_Tray_sumOf N) F hret (chkT_ok chk_Tray_sumOf) (hM_Tray_sumOf N) (hB_Tray_sumOf N) (hD_Tray_sumOf N) N 0 _ _ _ hf
  · cases hf
def T_Walk_begin : List (List (Option RW)) := [
  [some (.aload_n 0, 1, [0], 0, 0), some (.iload_n 1, 1, [1], 0, 0), some (.putfield 9, 3, [10, 0, 0], 0, 0), none, none, some (.aload_n 0, 1, [0], 0, 0), some (.iload_n 2, 1, [2], 0, 0), some (.putfield 15, 3, [10, 1, 0], 0, 0), none, none, some (.aload_n 0, 1, [0], 0, 0), some (.iload_n 3, 1, [3], 0, 0), some (.putfield 18, 3, [10, 2, 0], 0, 0), none, none, some (.aload_n 0, 1, [0], 0, 0), some (.iconst 0, 1, [], 0, 0), some (.putfield 25, 3, [10, 4, 0], 0, 0), none, none, some (.aload_n 0, 1, [0], 0, 0), some (.iconst 0, 1, [], 0, 0), some (.putfield 28, 3, [10, 5, 0], 0, 0), none, none, some (.return_, 1, [], 0, 0)]]
def f_Walk_begin (N : Nat) (a1 : Int32) (a2 : Int32) (a3 : Int32) (h : MH) : Option (MH) :=
  let h1 : MH := sI h 42 0 a1
  let h2 : MH := sI h1 42 1 a2
  let h3 : MH := sI h2 42 2 a3
  let h4 : MH := sI h3 42 4 0
  let h5 : MH := sI h4 42 5 0
  some h5
def C_Walk_begin (N : Nat) : MC := (KDL, false, (fun _ => 0), jsB, (fun _ _ _ => none), (fun _ _ _ => none), (fun _ _ _ => none), (fun _ _ _ => none))
def D_Walk_begin (N : Nat) (n pc : Nat) (lv : ML) (st : List MV) (h : MH) : Option (MH) :=
  match Nat.beq pc 0 with
  | true => (match lk lv 0, lk lv 1, lk lv 2, lk lv 3, st with
    | some (.inr (.inr (0, 10, 42))), some (.inl a1), some (.inl a2), some (.inl a3), [] => f_Walk_begin N a1 a2 a3 h
    | _, _, _, _, _ => none)
  | false => none
set_option maxRecDepth 1000000 in
theorem E_Walk_begin_0 (N : Nat) (n : Nat) (a1 : Int32) (a2 : Int32) (a3 : Int32) (h : MH) : seg (C_Walk_begin N) 4 0 rV T_Walk_begin [0] (fun q lv st h => match Nat.ble 1 q with
    | true => D_Walk_begin N n q lv st h
    | false => none) 400 true 0 [(0, .inr (.inr (0, 10, 42))), (1, .inl a1), (2, .inl a2), (3, .inl a3)] [] h = f_Walk_begin N a1 a2 a3 h := (rfl)
set_option maxRecDepth 1000000 in
theorem chk_Walk_begin : chkT 10 false prog_12_method_4_code T_Walk_begin = true := by decide +kernel
theorem mc_Walk_begin : mC 94 = prog_12_method_4_code := by rfl
theorem mx_Walk_begin : mL 94 = 4 ∧ mR 94 = none ∧ mK 94 = 1 ∧ (mN 94).cls = cN 10 := by decide +kernel
theorem hD_Walk_begin (N : Nat) {r : MH} : ∀ n pc lv st h, D_Walk_begin N n pc lv st h = some r → ∃ lv', (∀ q ∈ lv', q ∈ lv) ∧ seg (C_Walk_begin N) 4 0 rV T_Walk_begin [0] (fun q lv st h => match Nat.ble (pc + 1) q with
    | true => D_Walk_begin N n q lv st h
    | false => none) 400 true pc lv' st h = some r := by
  intro n pc lv st h hf
  unfold D_Walk_begin at hf
  split at hf
  · rename_i hb
    have hb := Nat.eq_of_beq_eq_true hb
    subst hb
    split at hf
    · rename_i y0 y1 y2 e0 e1 e2 e3
      exact ⟨_, (sub_cons e0 (sub_cons e1 (sub_cons e2 (sub_cons e3 sub_nil)))), (E_Walk_begin_0 N n _ _ _ h).trans hf⟩
    · cases hf
  · skip
    cases hf
theorem hM_Walk_begin (N : Nat) {r : MH} : ∀ n pc lv st h, D_Walk_begin N n pc lv st h = some r → pc < 26 := by
  intro n pc lv st h hf
  unfold D_Walk_begin at hf
  split at hf
  · rename_i hb
    rw [Nat.eq_of_beq_eq_true hb]
    decide
  · skip
    cases hf
theorem s_Walk_begin {l : Launch} {E : EV} {N : Nat} {as : List MV} {h : MH} {r : MH} (hf : w_Walk_begin (f_Walk_begin N) as h = some r) : SndM l E false 0 94 as h none r := by
  unfold w_Walk_begin at hf
  split at hf
  · obtain ⟨m1, m2, m3, m4⟩ := mx_Walk_begin
    refine snd_of (C := C_Walk_begin N) (own := 10) (rz := 0) (lim := 115) rV_eq m2 m4 pl_94 (TB_in _ cw_94 rfl) ⟨(fun _ => ⟨_, _, _, _, _, _, rfl, rfl, by rw [m4]; rfl⟩), (fun z => by rw [m3] at z; cases z)⟩ (fun z => by cases z) KDL_take rfl rfl (fun z => by cases z) (fun z => by cases z) (fun _ => rfl) (by rw [m1]; exact Nat.le_of_ble_eq_true rfl)
      (fun _ _ _ _ z => by cases z)
      (fun _ _ _ _ z => by cases z)
      (fun _ _ _ _ z => by cases z)
      (fun _ _ _ _ z => by cases z)
      (fun p e R s m args below meth c Q n0 F hret => ?_)
    rw [m1] at F hret ⊢
    rw [mc_Walk_begin] at F hret
    exact cuts_s (K := 400) (M := 26) (D := D_Walk_begin N) (B := fun _ _ _ _ _ => none) F hret (chkT_ok chk_Walk_begin) (hM_Walk_begin N) (fun _ _ _ _ _ z => by cases z) (hD_Walk_begin N) N 0 _ _ _ hf
  · cases hf
def T_Walk_isLoose : List (List (Option RW)) := [
  [some (.aload_n 0, 1, [0], 0, 0), some (.getfield 9, 3, [10, 0, 0], 0, 0), none, none, some (.bipush 9, 2, [], 9, 0), none, some (.if_icmp .lt 5, 3, [11], 0, 0), none, none, some (.iconst 1, 1, [], 1, 0), some (.ireturn, 1, [], 0, 0), some (.iload_n 2, 1, [2], 0, 0), some (.istore_n 3, 1, [3], 0, 0), some (.iload_n 3, 1, [3], 0, 0), some (.aload_n 1, 1, [1], 0, 0), some (.getfield 76, 3, [0, 0, 0], 0, 0), none, none, some (.if_icmp .ge 20, 3, [38], 0, 0), none, none, some (.aload_n 1, 1, [1], 0, 0), some (.getfield 101, 3, [0, 4, 2, 1, 6, 2], 0, 0), none, none, some (.iload_n 3, 1, [3], 0, 0), some (.iaload, 1, [], 0, 0), some (.ifCond .eq 5, 3, [32], 0, 0), none, none, some (.iconst 0, 1, [], 0, 0), some (.ireturn, 1, [], 0, 0)],
  [some (.iinc 3 1, 3, [3], 1, 0), none, none, some (.goto (-22), 3, [13], 0, 0), none, none, some (.iconst 1, 1, [], 1, 0), some (.ireturn, 1, [], 0, 0)]]
def F_Walk_isLoose_13 (N : Nat) (bk : (Int32 → MH → Option (Int32 × MH))) (a3 : Int32) (h : MH) : Option (Int32 × MH) :=
  if (gI h 33 0) ≤ a3 then
  (some (1, h))
  else
  (if inB a3 6 = true then
  (if (gI h 35 (iN a3)) = 0 then
  (let v1 : Int32 := a3 + 1
  bk v1 h)
  else
  (some (0, h)))
  else none)
def F_Walk_isLoose_0 (N : Nat) (bk : (Int32 → MH → Option (Int32 × MH))) (a2 : Int32) (h : MH) : Option (Int32 × MH) :=
  if (gI h 42 0) < 9 then
  (F_Walk_isLoose_13 N bk a2 h)
  else
  (some (1, h))
def L_Walk_isLoose (N : Nat) : Nat → (Int32 → MH → Option (Int32 × MH))
  | 0 => fun _ _ => none
  | n + 1 => F_Walk_isLoose_13 N (L_Walk_isLoose N n)
def f_Walk_isLoose (N : Nat) (a2 : Int32) (h : MH) : Option (Int32 × MH) := F_Walk_isLoose_0 N (L_Walk_isLoose N N) a2 h
def C_Walk_isLoose (N : Nat) : MC := (KDL, false, (fun _ => 0), jsB, (fun _ _ _ => none), (fun _ _ _ => none), (fun _ _ _ => none), (fun _ _ _ => none))
def D_Walk_isLoose (N : Nat) (n pc : Nat) (lv : ML) (st : List MV) (h : MH) : Option (Int32 × MH) :=
  match Nat.beq pc 0 with
  | true => (match lk lv 0, lk lv 1, lk lv 2, st with
    | some (.inr (.inr (0, 10, 42))), some (.inr (.inr (0, 0, 33))), some (.inl a2), [] => F_Walk_isLoose_0 N (L_Walk_isLoose N n) a2 h
    | _, _, _, _ => none)
  | false => match Nat.beq pc 13 with
  | true => (match lk lv 1, lk lv 3, st with
    | some (.inr (.inr (0, 0, 33))), some (.inl a3), [] => F_Walk_isLoose_13 N (L_Walk_isLoose N n) a3 h
    | _, _, _ => none)
  | false => none
def B_Walk_isLoose (N : Nat) (n pc : Nat) (lv : ML) (st : List MV) (h : MH) : Option (Int32 × MH) :=
  match Nat.beq pc 13 with
  | true => (match lk lv 1, lk lv 3, st with
    | some (.inr (.inr (0, 0, 33))), some (.inl a3), [] => ((L_Walk_isLoose N n)) a3 h
    | _, _, _ => none)
  | false => none
set_option maxRecDepth 1000000 in
theorem E_Walk_isLoose_0 (N : Nat) (n : Nat) (a2 : Int32) (h : MH) : seg (C_Walk_isLoose N) 4 1 rI T_Walk_isLoose [0, 13] (fun q lv st h => match Nat.ble 1 q with
    | true => D_Walk_isLoose N n q lv st h
    | false => B_Walk_isLoose N n q lv st h) 400 true 0 [(0, .inr (.inr (0, 10, 42))), (1, .inr (.inr (0, 0, 33))), (2, .inl a2)] [] h = F_Walk_isLoose_0 N (L_Walk_isLoose N n) a2 h := (rfl)
set_option maxRecDepth 1000000 in
theorem E_Walk_isLoose_13 (N : Nat) (n : Nat) (a3 : Int32) (h : MH) : seg (C_Walk_isLoose N) 4 1 rI T_Walk_isLoose [0, 13] (fun q lv st h => match Nat.ble 14 q with
    | true => D_Walk_isLoose N n q lv st h
    | false => B_Walk_isLoose N n q lv st h) 400 true 13 [(1, .inr (.inr (0, 0, 33))), (3, .inl a3)] [] h = F_Walk_isLoose_13 N (L_Walk_isLoose N n) a3 h := (rfl)
set_option maxRecDepth 1000000 in
theorem chk_Walk_isLoose : chkT 10 false prog_12_method_6_code T_Walk_isLoose = true := by decide +kernel
theorem mc_Walk_isLoose : mC 96 = prog_12_method_6_code := by rfl
theorem mx_Walk_isLoose : mL 96 = 4 ∧ mR 96 = some .boolean ∧ mK 96 = 1 ∧ (mN 96).cls = cN 10 := by decide +kernel
theorem hD_Walk_isLoose (N : Nat) {r : Int32 × MH} : ∀ n pc lv st h, D_Walk_isLoose N n pc lv st h = some r → ∃ lv', (∀ q ∈ lv', q ∈ lv) ∧ seg (C_Walk_isLoose N) 4 1 rI T_Walk_isLoose [0, 13] (fun q lv st h => match Nat.ble (pc + 1) q with
    | true => D_Walk_isLoose N n q lv st h
    | false => B_Walk_isLoose N n q lv st h) 400 true pc lv' st h = some r := by
  intro n pc lv st h hf
  unfold D_Walk_isLoose at hf
  split at hf
  · rename_i hb
    have hb := Nat.eq_of_beq_eq_true hb
    subst hb
    split at hf
    · rename_i y0 e0 e1 e2
      exact ⟨_, (sub_cons e0 (sub_cons e1 (sub_cons e2 sub_nil))), (E_Walk_isLoose_0 N n _ h).trans hf⟩
    · cases hf
  · skip
    split at hf
    · rename_i hb
      have hb := Nat.eq_of_beq_eq_true hb
      subst hb
      split at hf
      · rename_i y0 e0 e1
        exact ⟨_, (sub_cons e0 (sub_cons e1 sub_nil)), (E_Walk_isLoose_13 N n _ h).trans hf⟩
      · cases hf
    · skip
      cases hf
theorem hM_Walk_isLoose (N : Nat) {r : Int32 × MH} : ∀ n pc lv st h, D_Walk_isLoose N n pc lv st h = some r → pc < 40 := by
  intro n pc lv st h hf
  unfold D_Walk_isLoose at hf
  split at hf
  · rename_i hb
    rw [Nat.eq_of_beq_eq_true hb]
    decide
  · skip
    split at hf
    · rename_i hb
      rw [Nat.eq_of_beq_eq_true hb]
      decide
    · skip
      cases hf
theorem hB_Walk_isLoose (N : Nat) {r : Int32 × MH} : ∀ n pc lv st h, B_Walk_isLoose N n pc lv st h = some r → ∃ k, n = k + 1 ∧ D_Walk_isLoose N k pc lv st h = some r := by
  intro n pc lv st h hf
  unfold B_Walk_isLoose at hf
  split at hf
  · rename_i hb
    have hb := Nat.eq_of_beq_eq_true hb
    subst hb
    cases n with
    | zero =>
      split at hf
      · cases hf
      · cases hf
    | succ k =>
      refine ⟨k, rfl, ?_⟩
      exact hf
  · skip
    cases hf
theorem s_Walk_isLoose {l : Launch} {E : EV} {N : Nat} {as : List MV} {h : MH} {r : Int32 × MH} (hf : w_Walk_isLoose (f_Walk_isLoose N) as h = some r) : SndM l E false 0 96 as h (some (.inl r.1)) r.2 := by
  unfold w_Walk_isLoose at hf
  split at hf
  · obtain ⟨m1, m2, m3, m4⟩ := mx_Walk_isLoose
    refine snd_of (C := C_Walk_isLoose N) (own := 10) (rz := 1) (lim := 115) rI_eq m2 m4 pl_96 (TB_in _ cw_96 rfl) ⟨(fun _ => ⟨_, _, _, _, _, _, rfl, rfl, by rw [m4]; rfl⟩), (fun z => by rw [m3] at z; cases z)⟩ (fun z => by cases z) KDL_take rfl rfl (fun z => by cases z) (fun z => by cases z) (fun _ => rfl) (by rw [m1]; exact Nat.le_of_ble_eq_true rfl)
      (fun _ _ _ _ z => by cases z)
      (fun _ _ _ _ z => by cases z)
      (fun _ _ _ _ z => by cases z)
      (fun _ _ _ _ z => by cases z)
      (fun p e R s m args below meth c Q n0 F hret => ?_)
    rw [m1] at F hret ⊢
    rw [mc_Walk_isLoose] at F hret
    exact cuts_s (K := 400) (M := 40) (D := D_Walk_isLoose N) (B := B_Walk_isLoose N) F hret (chkT_ok chk_Walk_isLoose) (hM_Walk_isLoose N) (hB_Walk_isLoose N) (hD_Walk_isLoose N) N 0 _ _ _ hf
  · cases hf
def T_Math_floorDiv : List (List (Option RW)) := [
  [some (.iload_n 0, 1, [0], 0, 0), some (.iload_n 1, 1, [1], 0, 0), some (.idiv, 1, [], 0, 0), some (.istore_n 2, 1, [2], 0, 0), some (.iload_n 0, 1, [0], 0, 0), some (.iload_n 1, 1, [1], 0, 0), some (.ixor, 1, [], 0, 0), some (.ifCond .ge 14, 3, [21], 0, 0), none, none, some (.iload_n 2, 1, [2], 0, 0), some (.iload_n 1, 1, [1], 0, 0), some (.imul, 1, [], 0, 0), some (.iload_n 0, 1, [0], 0, 0), some (.if_icmp .eq 7, 3, [21], 0, 0), none, none, some (.iload_n 2, 1, [2], 0, 0), some (.iconst 1, 1, [], 1, 0), some (.isub, 1, [], 0, 0), some (.ireturn, 1, [], 0, 0), some (.iload_n 2, 1, [2], 0, 0), some (.ireturn, 1, [], 0, 0)]]
def f_Math_floorDiv (N : Nat) (a0 : Int32) (a1 : Int32) (h : MH) : Option (Int32 × MH) :=
  if a1 = 0 then none else
  let v1 : Int32 := a0 / a1
  if 0 ≤ (a0 ^^^ a1) then
  (some (v1, h))
  else
  (if (v1 * a1) = a0 then
  (some (v1, h))
  else
  (some (v1 - 1, h)))
def C_Math_floorDiv (N : Nat) : MC := (KDL, false, (fun _ => 0), jsB, (fun _ _ _ => none), (fun _ _ _ => none), (fun _ _ _ => none), (fun _ _ _ => none))
def D_Math_floorDiv (N : Nat) (n pc : Nat) (lv : ML) (st : List MV) (h : MH) : Option (Int32 × MH) :=
  match Nat.beq pc 0 with
  | true => (match lk lv 0, lk lv 1, st with
    | some (.inl a0), some (.inl a1), [] => f_Math_floorDiv N a0 a1 h
    | _, _, _ => none)
  | false => none
set_option maxRecDepth 1000000 in
theorem E_Math_floorDiv_0 (N : Nat) (n : Nat) (a0 : Int32) (a1 : Int32) (h : MH) : seg (C_Math_floorDiv N) 3 0 rI T_Math_floorDiv [0] (fun q lv st h => match Nat.ble 1 q with
    | true => D_Math_floorDiv N n q lv st h
    | false => none) 400 true 0 [(0, .inl a0), (1, .inl a1)] [] h = f_Math_floorDiv N a0 a1 h := (rfl)
set_option maxRecDepth 1000000 in
theorem chk_Math_floorDiv : chkT 16 false prog_17_method_47_code T_Math_floorDiv = true := by decide +kernel
theorem mc_Math_floorDiv : mC 257 = prog_17_method_47_code := by rfl
theorem mx_Math_floorDiv : mL 257 = 3 ∧ mR 257 = some .int ∧ mK 257 = 0 ∧ (mN 257).cls = cN 16 := by decide +kernel
theorem hD_Math_floorDiv (N : Nat) {r : Int32 × MH} : ∀ n pc lv st h, D_Math_floorDiv N n pc lv st h = some r → ∃ lv', (∀ q ∈ lv', q ∈ lv) ∧ seg (C_Math_floorDiv N) 3 0 rI T_Math_floorDiv [0] (fun q lv st h => match Nat.ble (pc + 1) q with
    | true => D_Math_floorDiv N n q lv st h
    | false => none) 400 true pc lv' st h = some r := by
  intro n pc lv st h hf
  unfold D_Math_floorDiv at hf
  split at hf
  · rename_i hb
    have hb := Nat.eq_of_beq_eq_true hb
    subst hb
    split at hf
    · rename_i y0 y1 e0 e1
      exact ⟨_, (sub_cons e0 (sub_cons e1 sub_nil)), (E_Math_floorDiv_0 N n _ _ h).trans hf⟩
    · cases hf
  · skip
    cases hf
theorem hM_Math_floorDiv (N : Nat) {r : Int32 × MH} : ∀ n pc lv st h, D_Math_floorDiv N n pc lv st h = some r → pc < 23 := by
  intro n pc lv st h hf
  unfold D_Math_floorDiv at hf
  split at hf
  · rename_i hb
    rw [Nat.eq_of_beq_eq_true hb]
    decide
  · skip
    cases hf
theorem s_Math_floorDiv {l : Launch} {E : EV} {N : Nat} {as : List MV} {h : MH} {r : Int32 × MH} (hf : w_Math_floorDiv (f_Math_floorDiv N) as h = some r) : SndM l E false 0 257 as h (some (.inl r.1)) r.2 := by
  unfold w_Math_floorDiv at hf
  split at hf
  · obtain ⟨m1, m2, m3, m4⟩ := mx_Math_floorDiv
    refine snd_of (C := C_Math_floorDiv N) (own := 16) (rz := 0) (lim := 115) rI_eq m2 m4 pl_257 (TB_in _ cw_257 rfl) ⟨(fun z => by rw [m3] at z; cases z), (fun z => by rw [m3] at z; cases z)⟩ (fun z => by cases z) KDL_take rfl rfl (fun z => by cases z) (fun z => by cases z) (fun _ => rfl) (by rw [m1]; exact Nat.le_of_ble_eq_true rfl)
      (fun _ _ _ _ z => by cases z)
      (fun _ _ _ _ z => by cases z)
      (fun _ _ _ _ z => by cases z)
      (fun _ _ _ _ z => by cases z)
      (fun p e R s m args below meth c Q n0 F hret => ?_)
    rw [m1] at F hret ⊢
    rw [mc_Math_floorDiv] at F hret
    exact cuts_s (K := 400) (M := 23) (D := D_Math_floorDiv N) (B := fun _ _ _ _ _ => none) F hret (chkT_ok chk_Math_floorDiv) (hM_Math_floorDiv N) (fun _ _ _ _ _ z => by cases z) (hD_Math_floorDiv N) N 0 _ _ _ hf
  · cases hf
def T_Walk_narrowBy : List (List (Option RW)) := [
  [some (.iload_n 2, 1, [2], 0, 0), some (.ifCond .le 49, 3, [50], 0, 0), none, none, some (.aload_n 0, 1, [0], 0, 0), some (.getfield 41, 3, [10, 9, 2, 1, 6, 2], 0, 0), none, none, some (.iload_n 1, 1, [1], 0, 0), some (.aload_n 0, 1, [0], 0, 0), some (.getfield 41, 3, [10, 9, 2, 1, 6, 2], 0, 0), none, none, some (.iload_n 1, 1, [1], 0, 0), some (.iaload, 1, [], 0, 0), some (.iload_n 3, 1, [3], 0, 0), some (.ineg, 1, [], 0, 0), some (.iload_n 2, 1, [2], 0, 0), some (.invokestatic 135, 3, [2, 257, 2, 0], 0, 0), none, none, some (.ineg, 1, [], 0, 0), some (.invokestatic 140, 3, [2, 260, 2, 0], 0, 0), none, none, some (.iastore, 1, [], 0, 0), some (.aload_n 0, 1, [0], 0, 0), some (.getfield 44, 3, [10, 10, 2, 1, 6, 3], 0, 0), none, none, some (.iload_n 1, 1, [1], 0, 0), some (.aload_n 0, 1, [0], 0, 0)],
  [some (.getfield 44, 3, [10, 10, 2, 1, 6, 3], 0, 0), none, none, some (.iload_n 1, 1, [1], 0, 0), some (.iaload, 1, [], 0, 0), some (.iload 4, 2, [4], 0, 0), none, some (.iload_n 2, 1, [2], 0, 0), some (.invokestatic 135, 3, [2, 257, 2, 0], 0, 0), none, none, some (.invokestatic 143, 3, [2, 261, 2, 0], 0, 0), none, none, some (.iastore, 1, [], 0, 0), some (.goto 71, 3, [118], 0, 0), none, none, some (.iload_n 2, 1, [2], 0, 0), some (.ifCond .ge 51, 3, [102], 0, 0), none, none, some (.aload_n 0, 1, [0], 0, 0), some (.getfield 41, 3, [10, 9, 2, 1, 6, 2], 0, 0), none, none, some (.iload_n 1, 1, [1], 0, 0), some (.aload_n 0, 1, [0], 0, 0), some (.getfield 41, 3, [10, 9, 2, 1, 6, 2], 0, 0), none, none, some (.iload_n 1, 1, [1], 0, 0)],
  [some (.iaload, 1, [], 0, 0), some (.iload 4, 2, [4], 0, 0), none, some (.iload_n 2, 1, [2], 0, 0), some (.ineg, 1, [], 0, 0), some (.invokestatic 135, 3, [2, 257, 2, 0], 0, 0), none, none, some (.ineg, 1, [], 0, 0), some (.invokestatic 140, 3, [2, 260, 2, 0], 0, 0), none, none, some (.iastore, 1, [], 0, 0), some (.aload_n 0, 1, [0], 0, 0), some (.getfield 44, 3, [10, 10, 2, 1, 6, 3], 0, 0), none, none, some (.iload_n 1, 1, [1], 0, 0), some (.aload_n 0, 1, [0], 0, 0), some (.getfield 44, 3, [10, 10, 2, 1, 6, 3], 0, 0), none, none, some (.iload_n 1, 1, [1], 0, 0), some (.iaload, 1, [], 0, 0), some (.iload_n 3, 1, [3], 0, 0), some (.ineg, 1, [], 0, 0), some (.iload_n 2, 1, [2], 0, 0), some (.ineg, 1, [], 0, 0), some (.invokestatic 135, 3, [2, 257, 2, 0], 0, 0), none, none, some (.invokestatic 143, 3, [2, 261, 2, 0], 0, 0)],
  [none, none, some (.iastore, 1, [], 0, 0), some (.goto 19, 3, [118], 0, 0), none, none, some (.iload_n 3, 1, [3], 0, 0), some (.ifCond .gt 8, 3, [111], 0, 0), none, none, some (.iload 4, 2, [4], 0, 0), none, some (.ifCond .ge 10, 3, [118], 0, 0), none, none, some (.aload_n 0, 1, [0], 0, 0), some (.getfield 44, 3, [10, 10, 2, 1, 6, 3], 0, 0), none, none, some (.iload_n 1, 1, [1], 0, 0), some (.iconst (-1), 1, [], (-1), 0), some (.iastore, 1, [], 0, 0), some (.return_, 1, [], 0, 0)]]
def f_Walk_narrowBy (N : Nat) (a1 : Int32) (a2 : Int32) (a3 : Int32) (a4 : Int32) (h : MH) : Option (MH) :=
  if a2 ≤ 0 then
  (if 0 ≤ a2 then
  (if 0 < a3 then
  (if inB a1 6 = true then
  (let h1 : MH := sI h 45 (iN a1) ((-1))
  some h1)
  else none)
  else
  (if 0 ≤ a4 then
  (some h)
  else
  (if inB a1 6 = true then
  (let h2 : MH := sI h 45 (iN a1) ((-1))
  some h2)
  else none)))
  else
  (if inB a1 6 = true then
  ((f_Math_floorDiv N a4 (-a2) h).bind (fun x3 =>
  (f_Math_max N (gI h 44 (iN a1)) (-x3.1) x3.2).bind (fun x4 =>
  if inB a1 6 = true then
  (let h5 : MH := sI x4.2 44 (iN a1) x4.1
  if inB a1 6 = true then
  ((f_Math_floorDiv N (-a3) (-a2) h5).bind (fun x6 =>
  (f_Math_min_II N (gI h5 45 (iN a1)) x6.1 x6.2).bind (fun x7 =>
  if inB a1 6 = true then
  (let h8 : MH := sI x7.2 45 (iN a1) x7.1
  some h8)
  else none)))
  else none)
  else none)))
  else none))
  else
  (if inB a1 6 = true then
  ((f_Math_floorDiv N (-a3) a2 h).bind (fun x9 =>
  (f_Math_max N (gI h 44 (iN a1)) (-x9.1) x9.2).bind (fun x10 =>
  if inB a1 6 = true then
  (let h11 : MH := sI x10.2 44 (iN a1) x10.1
  if inB a1 6 = true then
  ((f_Math_floorDiv N a4 a2 h11).bind (fun x12 =>
  (f_Math_min_II N (gI h11 45 (iN a1)) x12.1 x12.2).bind (fun x13 =>
  if inB a1 6 = true then
  (let h14 : MH := sI x13.2 45 (iN a1) x13.1
  some h14)
  else none)))
  else none)
  else none)))
  else none)
def C_Walk_narrowBy (N : Nat) : MC := (KDL, false, (fun _ => 0), jsB, (fun j => match Nat.beq j 257 with
    | true => w_Math_floorDiv (f_Math_floorDiv N)
    | false => match Nat.beq j 260 with
    | true => w_Math_max (f_Math_max N)
    | false => match Nat.beq j 261 with
    | true => w_Math_min_II (f_Math_min_II N)
    | false => fun _ _ => none), (fun _ _ _ => none), (fun _ _ _ => none), (fun _ _ _ => none))
def D_Walk_narrowBy (N : Nat) (n pc : Nat) (lv : ML) (st : List MV) (h : MH) : Option (MH) :=
  match Nat.beq pc 0 with
  | true => (match lk lv 0, lk lv 1, lk lv 2, lk lv 3, lk lv 4, st with
    | some (.inr (.inr (0, 10, 42))), some (.inl a1), some (.inl a2), some (.inl a3), some (.inl a4), [] => f_Walk_narrowBy N a1 a2 a3 a4 h
    | _, _, _, _, _, _ => none)
  | false => none
set_option maxRecDepth 1000000 in
theorem E_Walk_narrowBy_0 (N : Nat) (n : Nat) (a1 : Int32) (a2 : Int32) (a3 : Int32) (a4 : Int32) (h : MH) : seg (C_Walk_narrowBy N) 5 0 rV T_Walk_narrowBy [0] (fun q lv st h => match Nat.ble 1 q with
    | true => D_Walk_narrowBy N n q lv st h
    | false => none) 400 true 0 [(0, .inr (.inr (0, 10, 42))), (1, .inl a1), (2, .inl a2), (3, .inl a3), (4, .inl a4)] [] h = f_Walk_narrowBy N a1 a2 a3 a4 h := (rfl)
set_option maxRecDepth 1000000 in
theorem chk_Walk_narrowBy : chkT 10 false prog_12_method_8_code T_Walk_narrowBy = true := by decide +kernel
theorem mc_Walk_narrowBy : mC 98 = prog_12_method_8_code := by rfl
theorem mx_Walk_narrowBy : mL 98 = 5 ∧ mR 98 = none ∧ mK 98 = 1 ∧ (mN 98).cls = cN 10 := by decide +kernel
theorem hD_Walk_narrowBy (N : Nat) {r : MH} : ∀ n pc lv st h, D_Walk_narrowBy N n pc lv st h = some r → ∃ lv', (∀ q ∈ lv', q ∈ lv) ∧ seg (C_Walk_narrowBy N) 5 0 rV T_Walk_narrowBy [0] (fun q lv st h => match Nat.ble (pc + 1) q with
    | true => D_Walk_narrowBy N n q lv st h
    | false => none) 400 true pc lv' st h = some r := by
  intro n pc lv st h hf
  unfold D_Walk_narrowBy at hf
  split at hf
  · rename_i hb
    have hb := Nat.eq_of_beq_eq_true hb
    subst hb
    split at hf
    · rename_i y0 y1 y2 y3 e0 e1 e2 e3 e4
      exact ⟨_, (sub_cons e0 (sub_cons e1 (sub_cons e2 (sub_cons e3 (sub_cons e4 sub_nil))))), (E_Walk_narrowBy_0 N n _ _ _ _ h).trans hf⟩
    · cases hf
  · skip
    cases hf
theorem hM_Walk_narrowBy (N : Nat) {r : MH} : ∀ n pc lv st h, D_Walk_narrowBy N n pc lv st h = some r → pc < 119 := by
  intro n pc lv st h hf
  unfold D_Walk_narrowBy at hf
  split at hf
  · rename_i hb
    rw [Nat.eq_of_beq_eq_true hb]
    decide
  · skip
    cases hf
theorem s_Walk_narrowBy {l : Launch} {E : EV} {N : Nat} {as : List MV} {h : MH} {r : MH} (hf : w_Walk_narrowBy (f_Walk_narrowBy N) as h = some r) : SndM l E false 1 98 as h none r := by
  unfold w_Walk_narrowBy at hf
  split at hf
  · obtain ⟨m1, m2, m3, m4⟩ := mx_Walk_narrowBy
    refine snd_of (C := C_Walk_narrowBy N) (own := 10) (rz := 0) (lim := 115) rV_eq m2 m4 pl_98 (TB_in _ cw_98 rfl) ⟨(fun _ => ⟨_, _, _, _, _, _, rfl, rfl, by rw [m4]; rfl⟩), (fun z => by rw [m3] at z; cases z)⟩ (fun z => by cases z) KDL_take rfl rfl (fun z => by cases z) (fun z => by cases z) (fun _ => rfl) (by rw [m1]; exact Nat.le_of_ble_eq_true rfl)
      (fun j as h x z => by
      dsimp only [C_Walk_narrowBy] at z
      cases hb : Nat.beq j 257 with
      | true =>
        have hb := Nat.eq_of_beq_eq_true hb
        subst hb
        exact ⟨0, by decide, (fun z => by cases z), s_Math_floorDiv z⟩
      | false =>
        rw [hb] at z
        dsimp only at z
        cases hb : Nat.beq j 260 with
        | true =>
          have hb := Nat.eq_of_beq_eq_true hb
          subst hb
          exact ⟨0, by decide, (fun z => by cases z), s_Math_max z⟩
        | false =>
          rw [hb] at z
          dsimp only at z
          cases hb : Nat.beq j 261 with
          | true =>
            have hb := Nat.eq_of_beq_eq_true hb
            subst hb
            exact ⟨0, by decide, (fun z => by cases z), s_Math_min_II z⟩
          | false =>
            rw [hb] at z
            dsimp only at z
            cases z)
      (fun _ _ _ _ z => by cases z)
      (fun _ _ _ _ z => by cases z)
      (fun _ _ _ _ z => by cases z)
      (fun p e R s m args below meth c Q n0 F hret => ?_)
    rw [m1] at F hret ⊢
    rw [mc_Walk_narrowBy] at F hret
    exact cuts_s (K := 400) (M := 119) (D := D_Walk_narrowBy N) (B := fun _ _ _ _ _ => none) F hret (chkT_ok chk_Walk_narrowBy) (hM_Walk_narrowBy N) (fun _ _ _ _ _ z => by cases z) (hD_Walk_narrowBy N) N 0 _ _ _ hf
  · cases hf
def T_Walk_narrow : List (List (Option RW)) := [
  [some (.aload_n 0, 1, [0], 0, 0), some (.getfield 41, 3, [10, 9, 2, 1, 6, 2], 0, 0), none, none, some (.iload_n 2, 1, [2], 0, 0), some (.aload_n 1, 1, [1], 0, 0), some (.iload_n 2, 1, [2], 0, 0), some (.aload_n 0, 1, [0], 0, 0), some (.getfield 9, 3, [10, 0, 0], 0, 0), none, none, some (.invokevirtual 104, 3, [1, 4, 3, 0], 0, 0), none, none, some (.iastore, 1, [], 0, 0), some (.aload_n 0, 1, [0], 0, 0), some (.getfield 44, 3, [10, 10, 2, 1, 6, 3], 0, 0), none, none, some (.iload_n 2, 1, [2], 0, 0), some (.aload_n 1, 1, [1], 0, 0), some (.iload_n 2, 1, [2], 0, 0), some (.aload_n 0, 1, [0], 0, 0), some (.getfield 9, 3, [10, 0, 0], 0, 0), none, none, some (.invokevirtual 107, 3, [1, 5, 3, 0], 0, 0), none, none, some (.iastore, 1, [], 0, 0), some (.iconst 0, 1, [], 0, 0), some (.istore 4, 2, [4], 0, 0)],
  [none, some (.iload 4, 2, [4], 0, 0), none, some (.aload_n 1, 1, [1], 0, 0), some (.getfield 110, 3, [0, 1, 0], 0, 0), none, none, some (.if_icmp .ge 92, 3, [131], 0, 0), none, none, some (.iload_n 3, 1, [3], 0, 0), some (.iload 4, 2, [4], 0, 0), none, some (.ishr, 1, [], 0, 0), some (.iconst 1, 1, [], 1, 0), some (.iand, 1, [], 0, 0), some (.ifCond .eq 77, 3, [125], 0, 0), none, none, some (.iload_n 2, 1, [2], 0, 0), some (.bipush 8, 2, [], 8, 0), none, some (.imul, 1, [], 0, 0), some (.iload 4, 2, [4], 0, 0), none, some (.iadd, 1, [], 0, 0), some (.istore 5, 2, [5], 0, 0), none, some (.iload 5, 2, [5], 0, 0), none, some (.bipush 8, 2, [], 8, 0), none],
  [some (.iadd, 1, [], 0, 0), some (.istore 6, 2, [6], 0, 0), none, some (.aload_n 0, 1, [0], 0, 0), some (.iload_n 2, 1, [2], 0, 0), some (.aload_n 1, 1, [1], 0, 0), some (.getfield 113, 3, [0, 3, 2, 1, 48, 1], 0, 0), none, none, some (.iload 5, 2, [5], 0, 0), none, some (.iaload, 1, [], 0, 0), some (.aload_n 1, 1, [1], 0, 0), some (.getfield 116, 3, [0, 5, 2, 1, 8, 3], 0, 0), none, none, some (.iload 4, 2, [4], 0, 0), none, some (.iaload, 1, [], 0, 0), some (.aload_n 1, 1, [1], 0, 0), some (.getfield 119, 3, [0, 10, 2, 1, 56, 8], 0, 0), none, none, some (.iload 5, 2, [5], 0, 0), none, some (.iaload, 1, [], 0, 0), some (.isub, 1, [], 0, 0), some (.aload_n 1, 1, [1], 0, 0), some (.getfield 122, 3, [0, 8, 2, 1, 56, 6], 0, 0), none, none, some (.iload 6, 2, [6], 0, 0)],
  [none, some (.iaload, 1, [], 0, 0), some (.isub, 1, [], 0, 0), some (.aload_n 1, 1, [1], 0, 0), some (.getfield 125, 3, [0, 6, 2, 1, 8, 4], 0, 0), none, none, some (.iload 4, 2, [4], 0, 0), none, some (.iaload, 1, [], 0, 0), some (.aload_n 1, 1, [1], 0, 0), some (.getfield 119, 3, [0, 10, 2, 1, 56, 8], 0, 0), none, none, some (.iload 5, 2, [5], 0, 0), none, some (.iaload, 1, [], 0, 0), some (.isub, 1, [], 0, 0), some (.aload_n 1, 1, [1], 0, 0), some (.getfield 128, 3, [0, 7, 2, 1, 56, 5], 0, 0), none, none, some (.iload 6, 2, [6], 0, 0), none, some (.iaload, 1, [], 0, 0), some (.isub, 1, [], 0, 0), some (.invokevirtual 131, 3, [0, 98, 5, 3], 0, 0), none, none, some (.iinc 4 1, 3, [4], 1, 0), none, none],
  [some (.goto (-95), 3, [33], 0, 0), none, none, some (.return_, 1, [], 0, 0)]]
def F_Walk_narrow_33 (N : Nat) (bk : (Int32 → Int32 → Int32 → MH → Option (MH))) (a2 : Int32) (a3 : Int32) (a4 : Int32) (h : MH) : Option (MH) :=
  if (gI h 33 1) ≤ a4 then
  (some h)
  else
  (if ((a3 >>> (a4 &&& 31)) &&& 1) = 0 then
  (let v5 : Int32 := a4 + 1
  bk a2 a3 v5 h)
  else
  (let v6 : Int32 := (a2 * 8) + a4
  let v7 : Int32 := v6 + 8
  if inB v6 48 = true then
  (if inB a4 8 = true then
  (if inB v6 56 = true then
  (if inB v7 56 = true then
  (if inB a4 8 = true then
  (if inB v6 56 = true then
  (if inB v7 56 = true then
  ((f_Walk_narrowBy N a2 (gI h 34 (iN v6)) (((gI h 36 (iN a4)) - (gI h 41 (iN v6))) - (gI h 39 (iN v7))) (((gI h 37 (iN a4)) - (gI h 41 (iN v6))) - (gI h 38 (iN v7))) h).bind (fun x8 =>
  let v9 : Int32 := a4 + 1
  bk a2 a3 v9 x8))
  else none)
  else none)
  else none)
  else none)
  else none)
  else none)
  else none))
def F_Walk_narrow_0 (N : Nat) (bk : (Int32 → Int32 → Int32 → MH → Option (MH))) (a2 : Int32) (a3 : Int32) (h : MH) : Option (MH) :=
  (f_Asked_leastBeside N a2 (gI h 42 0) h).bind (fun x1 =>
  if inB a2 6 = true then
  (let h2 : MH := sI x1.2 44 (iN a2) x1.1
  (f_Asked_mostBeside N a2 (gI h2 42 0) h2).bind (fun x3 =>
  if inB a2 6 = true then
  (let h4 : MH := sI x3.2 45 (iN a2) x3.1
  F_Walk_narrow_33 N bk a2 a3 0 h4)
  else none))
  else none)
def L_Walk_narrow (N : Nat) : Nat → (Int32 → Int32 → Int32 → MH → Option (MH))
  | 0 => fun _ _ _ _ => none
  | n + 1 => F_Walk_narrow_33 N (L_Walk_narrow N n)
def f_Walk_narrow (N : Nat) (a2 : Int32) (a3 : Int32) (h : MH) : Option (MH) := F_Walk_narrow_0 N (L_Walk_narrow N N) a2 a3 h
def C_Walk_narrow (N : Nat) : MC := (KDL, false, (fun _ => 0), jsB, (fun j => match Nat.beq j 4 with
    | true => w_Asked_leastBeside (f_Asked_leastBeside N)
    | false => match Nat.beq j 5 with
    | true => w_Asked_mostBeside (f_Asked_mostBeside N)
    | false => fun _ _ => none), (fun _ _ _ => none), (fun _ _ _ => none), (fun j => match Nat.beq j 98 with
    | true => w_Walk_narrowBy (f_Walk_narrowBy N)
    | false => fun _ _ => none))
def D_Walk_narrow (N : Nat) (n pc : Nat) (lv : ML) (st : List MV) (h : MH) : Option (MH) :=
  match Nat.beq pc 0 with
  | true => (match lk lv 0, lk lv 1, lk lv 2, lk lv 3, st with
    | some (.inr (.inr (0, 10, 42))), some (.inr (.inr (0, 0, 33))), some (.inl a2), some (.inl a3), [] => F_Walk_narrow_0 N (L_Walk_narrow N n) a2 a3 h
    | _, _, _, _, _ => none)
  | false => match Nat.beq pc 33 with
  | true => (match lk lv 0, lk lv 1, lk lv 2, lk lv 3, lk lv 4, st with
    | some (.inr (.inr (0, 10, 42))), some (.inr (.inr (0, 0, 33))), some (.inl a2), some (.inl a3), some (.inl a4), [] => F_Walk_narrow_33 N (L_Walk_narrow N n) a2 a3 a4 h
    | _, _, _, _, _, _ => none)
  | false => none
def B_Walk_narrow (N : Nat) (n pc : Nat) (lv : ML) (st : List MV) (h : MH) : Option (MH) :=
  match Nat.beq pc 33 with
  | true => (match lk lv 0, lk lv 1, lk lv 2, lk lv 3, lk lv 4, st with
    | some (.inr (.inr (0, 10, 42))), some (.inr (.inr (0, 0, 33))), some (.inl a2), some (.inl a3), some (.inl a4), [] => ((L_Walk_narrow N n)) a2 a3 a4 h
    | _, _, _, _, _, _ => none)
  | false => none
set_option maxRecDepth 1000000 in
theorem E_Walk_narrow_0 (N : Nat) (n : Nat) (a2 : Int32) (a3 : Int32) (h : MH) : seg (C_Walk_narrow N) 7 0 rV T_Walk_narrow [0, 33] (fun q lv st h => match Nat.ble 1 q with
    | true => D_Walk_narrow N n q lv st h
    | false => B_Walk_narrow N n q lv st h) 400 true 0 [(0, .inr (.inr (0, 10, 42))), (1, .inr (.inr (0, 0, 33))), (2, .inl a2), (3, .inl a3)] [] h = F_Walk_narrow_0 N (L_Walk_narrow N n) a2 a3 h := (rfl)
set_option maxRecDepth 1000000 in
theorem E_Walk_narrow_33 (N : Nat) (n : Nat) (a2 : Int32) (a3 : Int32) (a4 : Int32) (h : MH) : seg (C_Walk_narrow N) 7 0 rV T_Walk_narrow [0, 33] (fun q lv st h => match Nat.ble 34 q with
    | true => D_Walk_narrow N n q lv st h
    | false => B_Walk_narrow N n q lv st h) 400 true 33 [(0, .inr (.inr (0, 10, 42))), (1, .inr (.inr (0, 0, 33))), (2, .inl a2), (3, .inl a3), (4, .inl a4)] [] h = F_Walk_narrow_33 N (L_Walk_narrow N n) a2 a3 a4 h := (rfl)
set_option maxRecDepth 1000000 in
theorem chk_Walk_narrow : chkT 10 false prog_12_method_7_code T_Walk_narrow = true := by decide +kernel
theorem mc_Walk_narrow : mC 97 = prog_12_method_7_code := by rfl
theorem mx_Walk_narrow : mL 97 = 7 ∧ mR 97 = none ∧ mK 97 = 1 ∧ (mN 97).cls = cN 10 := by decide +kernel
theorem hD_Walk_narrow (N : Nat) {r : MH} : ∀ n pc lv st h, D_Walk_narrow N n pc lv st h = some r → ∃ lv', (∀ q ∈ lv', q ∈ lv) ∧ seg (C_Walk_narrow N) 7 0 rV T_Walk_narrow [0, 33] (fun q lv st h => match Nat.ble (pc + 1) q with
    | true => D_Walk_narrow N n q lv st h
    | false => B_Walk_narrow N n q lv st h) 400 true pc lv' st h = some r := by
  intro n pc lv st h hf
  unfold D_Walk_narrow at hf
  split at hf
  · rename_i hb
    have hb := Nat.eq_of_beq_eq_true hb
    subst hb
    split at hf
    · rename_i y0 y1 e0 e1 e2 e3
      exact ⟨_, (sub_cons e0 (sub_cons e1 (sub_cons e2 (sub_cons e3 sub_nil)))), (E_Walk_narrow_0 N n _ _ h).trans hf⟩
    · cases hf
  · skip
    split at hf
    · rename_i hb
      have hb := Nat.eq_of_beq_eq_true hb
      subst hb
      split at hf
      · rename_i y0 y1 y2 e0 e1 e2 e3 e4
        exact ⟨_, (sub_cons e0 (sub_cons e1 (sub_cons e2 (sub_cons e3 (sub_cons e4 sub_nil))))), (E_Walk_narrow_33 N n _ _ _ h).trans hf⟩
      · cases hf
    · skip
      cases hf
theorem hM_Walk_narrow (N : Nat) {r : MH} : ∀ n pc lv st h, D_Walk_narrow N n pc lv st h = some r → pc < 132 := by
  intro n pc lv st h hf
  unfold D_Walk_narrow at hf
  split at hf
  · rename_i hb
    rw [Nat.eq_of_beq_eq_true hb]
    decide
  · skip
    split at hf
    · rename_i hb
      rw [Nat.eq_of_beq_eq_true hb]
      decide
    · skip
      cases hf
theorem hB_Walk_narrow (N : Nat) {r : MH} : ∀ n pc lv st h, B_Walk_narrow N n pc lv st h = some r → ∃ k, n = k + 1 ∧ D_Walk_narrow N k pc lv st h = some r := by
  intro n pc lv st h hf
  unfold B_Walk_narrow at hf
  split at hf
  · rename_i hb
    have hb := Nat.eq_of_beq_eq_true hb
    subst hb
    cases n with
    | zero =>
      split at hf
      · cases hf
      · cases hf
    | succ k =>
      refine ⟨k, rfl, ?_⟩
      exact hf
  · skip
    cases hf
theorem s_Walk_narrow {l : Launch} {E : EV} {N : Nat} {as : List MV} {h : MH} {r : MH} (hf : w_Walk_narrow (f_Walk_narrow N) as h = some r) : SndM l E false 2 97 as h none r := by
  unfold w_Walk_narrow at hf
  split at hf
  · obtain ⟨m1, m2, m3, m4⟩ := mx_Walk_narrow
    refine snd_of (C := C_Walk_narrow N) (own := 10) (rz := 0) (lim := 115) rV_eq m2 m4 pl_97 (TB_in _ cw_97 rfl) ⟨(fun _ => ⟨_, _, _, _, _, _, rfl, rfl, by rw [m4]; rfl⟩), (fun z => by rw [m3] at z; cases z)⟩ (fun z => by cases z) KDL_take rfl rfl (fun z => by cases z) (fun z => by cases z) (fun _ => rfl) (by rw [m1]; exact Nat.le_of_ble_eq_true rfl)
      (fun j as h x z => by
      dsimp only [C_Walk_narrow] at z
      cases hb : Nat.beq j 4 with
      | true =>
        have hb := Nat.eq_of_beq_eq_true hb
        subst hb
        exact ⟨1, by decide, (fun z => by cases z), s_Asked_leastBeside z⟩
      | false =>
        rw [hb] at z
        dsimp only at z
        cases hb : Nat.beq j 5 with
        | true =>
          have hb := Nat.eq_of_beq_eq_true hb
          subst hb
          exact ⟨1, by decide, (fun z => by cases z), s_Asked_mostBeside z⟩
        | false =>
          rw [hb] at z
          dsimp only at z
          cases z)
      (fun _ _ _ _ z => by cases z)
      (fun _ _ _ _ z => by cases z)
      (fun j as h x z => by
      dsimp only [C_Walk_narrow] at z
      cases hb : Nat.beq j 98 with
      | true =>
        have hb := Nat.eq_of_beq_eq_true hb
        subst hb
        exact ⟨1, by decide, (fun z => by cases z), s_Walk_narrowBy z⟩
      | false =>
        rw [hb] at z
        dsimp only at z
        cases z)
      (fun p e R s m args below meth c Q n0 F hret => ?_)
    rw [m1] at F hret ⊢
    rw [mc_Walk_narrow] at F hret
    exact cuts_s (K := 400) (M := 132) (D := D_Walk_narrow N) (B := B_Walk_narrow N) F hret (chkT_ok chk_Walk_narrow) (hM_Walk_narrow N) (hB_Walk_narrow N) (hD_Walk_narrow N) N 0 _ _ _ hf
  · cases hf
def T_Walk_noteFirst : List (List (Option RW)) := [
  [some (.aload_n 0, 1, [0], 0, 0), some (.getfield 25, 3, [10, 4, 0], 0, 0), none, none, some (.ifCond .ne 18, 3, [22], 0, 0), none, none, some (.aload_n 1, 1, [1], 0, 0), some (.getfield 159, 3, [0, 9, 2, 1, 6, 7], 0, 0), none, none, some (.iconst 0, 1, [], 0, 0), some (.aload_n 0, 1, [0], 0, 0), some (.getfield 37, 3, [10, 8, 2, 1, 6, 1], 0, 0), none, none, some (.iconst 0, 1, [], 0, 0), some (.bipush 6, 2, [], 6, 0), none, some (.invokestatic 169, 3, [9], 0, 0), none, none, some (.return_, 1, [], 0, 0)]]
def f_Walk_noteFirst (N : Nat) (h : MH) : Option (MH) :=
  if (gI h 42 4) = 0 then
  (if 0 ≤ (6 : Int32) ∧ 0 ≤ (0 : Int32) ∧ 0 ≤ (0 : Int32) ∧ iN (0 : Int32) + iN (6 : Int32) ≤ 6 ∧ iN (0 : Int32) + iN (6 : Int32) ≤ 6 then
  (let h1 : MH := cI h 40 43 (iN (0 : Int32)) (iN (0 : Int32)) (iN (6 : Int32))
  some h1)
  else none)
  else
  (some h)
def C_Walk_noteFirst (N : Nat) : MC := (KDL, false, (fun _ => 0), jsB, (fun _ _ _ => none), (fun _ _ _ => none), (fun _ _ _ => none), (fun _ _ _ => none))
def D_Walk_noteFirst (N : Nat) (n pc : Nat) (lv : ML) (st : List MV) (h : MH) : Option (MH) :=
  match Nat.beq pc 0 with
  | true => (match lk lv 0, lk lv 1, st with
    | some (.inr (.inr (0, 10, 42))), some (.inr (.inr (0, 0, 33))), [] => f_Walk_noteFirst N h
    | _, _, _ => none)
  | false => none
set_option maxRecDepth 1000000 in
theorem E_Walk_noteFirst_0 (N : Nat) (n : Nat) (h : MH) : seg (C_Walk_noteFirst N) 2 0 rV T_Walk_noteFirst [0] (fun q lv st h => match Nat.ble 1 q with
    | true => D_Walk_noteFirst N n q lv st h
    | false => none) 400 true 0 [(0, .inr (.inr (0, 10, 42))), (1, .inr (.inr (0, 0, 33)))] [] h = f_Walk_noteFirst N h := (rfl)
set_option maxRecDepth 1000000 in
theorem chk_Walk_noteFirst : chkT 10 false prog_12_method_12_code T_Walk_noteFirst = true := by decide +kernel
theorem mc_Walk_noteFirst : mC 102 = prog_12_method_12_code := by rfl
theorem mx_Walk_noteFirst : mL 102 = 2 ∧ mR 102 = none ∧ mK 102 = 1 ∧ (mN 102).cls = cN 10 := by decide +kernel
theorem hD_Walk_noteFirst (N : Nat) {r : MH} : ∀ n pc lv st h, D_Walk_noteFirst N n pc lv st h = some r → ∃ lv', (∀ q ∈ lv', q ∈ lv) ∧ seg (C_Walk_noteFirst N) 2 0 rV T_Walk_noteFirst [0] (fun q lv st h => match Nat.ble (pc + 1) q with
    | true => D_Walk_noteFirst N n q lv st h
    | false => none) 400 true pc lv' st h = some r := by
  intro n pc lv st h hf
  unfold D_Walk_noteFirst at hf
  split at hf
  · rename_i hb
    have hb := Nat.eq_of_beq_eq_true hb
    subst hb
    split at hf
    · rename_i e0 e1
      exact ⟨_, (sub_cons e0 (sub_cons e1 sub_nil)), (E_Walk_noteFirst_0 N n h).trans hf⟩
    · cases hf
  · skip
    cases hf
theorem hM_Walk_noteFirst (N : Nat) {r : MH} : ∀ n pc lv st h, D_Walk_noteFirst N n pc lv st h = some r → pc < 23 := by
  intro n pc lv st h hf
  unfold D_Walk_noteFirst at hf
  split at hf
  · rename_i hb
    rw [Nat.eq_of_beq_eq_true hb]
    decide
  · skip
    cases hf
theorem s_Walk_noteFirst {l : Launch} {E : EV} {N : Nat} {as : List MV} {h : MH} {r : MH} (hf : w_Walk_noteFirst (f_Walk_noteFirst N) as h = some r) : SndM l E false 0 102 as h none r := by
  unfold w_Walk_noteFirst at hf
  split at hf
  · obtain ⟨m1, m2, m3, m4⟩ := mx_Walk_noteFirst
    refine snd_of (C := C_Walk_noteFirst N) (own := 10) (rz := 0) (lim := 115) rV_eq m2 m4 pl_102 (TB_in _ cw_102 rfl) ⟨(fun _ => ⟨_, _, _, _, _, _, rfl, rfl, by rw [m4]; rfl⟩), (fun z => by rw [m3] at z; cases z)⟩ (fun z => by cases z) KDL_take rfl rfl (fun z => by cases z) (fun z => by cases z) (fun _ => rfl) (by rw [m1]; exact Nat.le_of_ble_eq_true rfl)
      (fun _ _ _ _ z => by cases z)
      (fun _ _ _ _ z => by cases z)
      (fun _ _ _ _ z => by cases z)
      (fun _ _ _ _ z => by cases z)
      (fun p e R s m args below meth c Q n0 F hret => ?_)
    rw [m1] at F hret ⊢
    rw [mc_Walk_noteFirst] at F hret
    exact cuts_s (K := 400) (M := 23) (D := D_Walk_noteFirst N) (B := fun _ _ _ _ _ => none) F hret (chkT_ok chk_Walk_noteFirst) (hM_Walk_noteFirst N) (fun _ _ _ _ _ z => by cases z) (hD_Walk_noteFirst N) N 0 _ _ _ hf
  · cases hf
def T_Walk_noteEnds : List (List (Option RW)) := [
  [some (.aload_n 0, 1, [0], 0, 0), some (.aload_n 0, 1, [0], 0, 0), some (.getfield 25, 3, [10, 4, 0], 0, 0), none, none, some (.ifCond .ne 7, 3, [12], 0, 0), none, none, some (.iload_n 1, 1, [1], 0, 0), some (.goto 11, 3, [20], 0, 0), none, none, some (.aload_n 0, 1, [0], 0, 0), some (.getfield 31, 3, [10, 6, 0], 0, 0), none, none, some (.iload_n 1, 1, [1], 0, 0), some (.invokestatic 143, 3, [2, 261, 2, 0], 0, 0), none, none, some (.putfield 31, 3, [10, 6, 0], 0, 0), none, none, some (.aload_n 0, 1, [0], 0, 0), some (.aload_n 0, 1, [0], 0, 0), some (.getfield 25, 3, [10, 4, 0], 0, 0), none, none, some (.ifCond .ne 7, 3, [35], 0, 0), none, none, some (.iload_n 2, 1, [2], 0, 0)],
  [some (.goto 11, 3, [43], 0, 0), none, none, some (.aload_n 0, 1, [0], 0, 0), some (.getfield 34, 3, [10, 7, 0], 0, 0), none, none, some (.iload_n 2, 1, [2], 0, 0), some (.invokestatic 140, 3, [2, 260, 2, 0], 0, 0), none, none, some (.putfield 34, 3, [10, 7, 0], 0, 0), none, none, some (.return_, 1, [], 0, 0)]]
def F_Walk_noteEnds_20 (N : Nat) (a2 : Int32) (as0 : Int32) (h : MH) : Option (MH) :=
  let h2 : MH := sI h 42 6 as0
  if (gI h2 42 4) = 0 then
  (let h3 : MH := sI h2 42 7 a2
  some h3)
  else
  ((f_Math_max N (gI h2 42 7) a2 h2).bind (fun x4 =>
  let h5 : MH := sI x4.2 42 7 x4.1
  some h5))
def f_Walk_noteEnds (N : Nat) (a1 : Int32) (a2 : Int32) (h : MH) : Option (MH) :=
  if (gI h 42 4) = 0 then
  (F_Walk_noteEnds_20 N a2 a1 h)
  else
  ((f_Math_min_II N (gI h 42 6) a1 h).bind (fun x1 =>
  F_Walk_noteEnds_20 N a2 x1.1 x1.2))
def C_Walk_noteEnds (N : Nat) : MC := (KDL, false, (fun _ => 0), jsB, (fun j => match Nat.beq j 260 with
    | true => w_Math_max (f_Math_max N)
    | false => match Nat.beq j 261 with
    | true => w_Math_min_II (f_Math_min_II N)
    | false => fun _ _ => none), (fun _ _ _ => none), (fun _ _ _ => none), (fun _ _ _ => none))
def D_Walk_noteEnds (N : Nat) (n pc : Nat) (lv : ML) (st : List MV) (h : MH) : Option (MH) :=
  match Nat.beq pc 0 with
  | true => (match lk lv 0, lk lv 1, lk lv 2, st with
    | some (.inr (.inr (0, 10, 42))), some (.inl a1), some (.inl a2), [] => f_Walk_noteEnds N a1 a2 h
    | _, _, _, _ => none)
  | false => match Nat.beq pc 20 with
  | true => (match lk lv 0, lk lv 2, st with
    | some (.inr (.inr (0, 10, 42))), some (.inl a2), [.inl as0, .inr (.inr (0, 10, 42))] => F_Walk_noteEnds_20 N a2 as0 h
    | _, _, _ => none)
  | false => none
set_option maxRecDepth 1000000 in
theorem E_Walk_noteEnds_0 (N : Nat) (n : Nat) (a1 : Int32) (a2 : Int32) (h : MH) : seg (C_Walk_noteEnds N) 3 0 rV T_Walk_noteEnds [0, 20] (fun q lv st h => match Nat.ble 1 q with
    | true => D_Walk_noteEnds N n q lv st h
    | false => none) 400 true 0 [(0, .inr (.inr (0, 10, 42))), (1, .inl a1), (2, .inl a2)] [] h = f_Walk_noteEnds N a1 a2 h := (rfl)
set_option maxRecDepth 1000000 in
theorem E_Walk_noteEnds_20 (N : Nat) (n : Nat) (a2 : Int32) (as0 : Int32) (h : MH) : seg (C_Walk_noteEnds N) 3 0 rV T_Walk_noteEnds [0, 20] (fun q lv st h => match Nat.ble 21 q with
    | true => D_Walk_noteEnds N n q lv st h
    | false => none) 400 true 20 [(0, .inr (.inr (0, 10, 42))), (2, .inl a2)] [.inl as0, .inr (.inr (0, 10, 42))] h = F_Walk_noteEnds_20 N a2 as0 h := (rfl)
set_option maxRecDepth 1000000 in
theorem chk_Walk_noteEnds : chkT 10 false prog_12_method_13_code T_Walk_noteEnds = true := by decide +kernel
theorem mc_Walk_noteEnds : mC 103 = prog_12_method_13_code := by rfl
theorem mx_Walk_noteEnds : mL 103 = 3 ∧ mR 103 = none ∧ mK 103 = 1 ∧ (mN 103).cls = cN 10 := by decide +kernel
theorem hD_Walk_noteEnds (N : Nat) {r : MH} : ∀ n pc lv st h, D_Walk_noteEnds N n pc lv st h = some r → ∃ lv', (∀ q ∈ lv', q ∈ lv) ∧ seg (C_Walk_noteEnds N) 3 0 rV T_Walk_noteEnds [0, 20] (fun q lv st h => match Nat.ble (pc + 1) q with
    | true => D_Walk_noteEnds N n q lv st h
    | false => none) 400 true pc lv' st h = some r := by
  intro n pc lv st h hf
  unfold D_Walk_noteEnds at hf
  split at hf
  · rename_i hb
    have hb := Nat.eq_of_beq_eq_true hb
    subst hb
    split at hf
    · rename_i y0 y1 e0 e1 e2
      exact ⟨_, (sub_cons e0 (sub_cons e1 (sub_cons e2 sub_nil))), (E_Walk_noteEnds_0 N n _ _ h).trans hf⟩
    · cases hf
  · skip
    split at hf
    · rename_i hb
      have hb := Nat.eq_of_beq_eq_true hb
      subst hb
      split at hf
      · rename_i y0 y1 e0 e1
        exact ⟨_, (sub_cons e0 (sub_cons e1 sub_nil)), (E_Walk_noteEnds_20 N n _ _ h).trans hf⟩
      · cases hf
    · skip
      cases hf
theorem hM_Walk_noteEnds (N : Nat) {r : MH} : ∀ n pc lv st h, D_Walk_noteEnds N n pc lv st h = some r → pc < 47 := by
  intro n pc lv st h hf
  unfold D_Walk_noteEnds at hf
  split at hf
  · rename_i hb
    rw [Nat.eq_of_beq_eq_true hb]
    decide
  · skip
    split at hf
    · rename_i hb
      rw [Nat.eq_of_beq_eq_true hb]
      decide
    · skip
      cases hf
theorem s_Walk_noteEnds {l : Launch} {E : EV} {N : Nat} {as : List MV} {h : MH} {r : MH} (hf : w_Walk_noteEnds (f_Walk_noteEnds N) as h = some r) : SndM l E false 1 103 as h none r := by
  unfold w_Walk_noteEnds at hf
  split at hf
  · obtain ⟨m1, m2, m3, m4⟩ := mx_Walk_noteEnds
    refine snd_of (C := C_Walk_noteEnds N) (own := 10) (rz := 0) (lim := 115) rV_eq m2 m4 pl_103 (TB_in _ cw_103 rfl) ⟨(fun _ => ⟨_, _, _, _, _, _, rfl, rfl, by rw [m4]; rfl⟩), (fun z => by rw [m3] at z; cases z)⟩ (fun z => by cases z) KDL_take rfl rfl (fun z => by cases z) (fun z => by cases z) (fun _ => rfl) (by rw [m1]; exact Nat.le_of_ble_eq_true rfl)
      (fun j as h x z => by
      dsimp only [C_Walk_noteEnds] at z
      cases hb : Nat.beq j 260 with
      | true =>
        have hb := Nat.eq_of_beq_eq_true hb
        subst hb
        exact ⟨0, by decide, (fun z => by cases z), s_Math_max z⟩
      | false =>
        rw [hb] at z
        dsimp only at z
        cases hb : Nat.beq j 261 with
        | true =>
          have hb := Nat.eq_of_beq_eq_true hb
          subst hb
          exact ⟨0, by decide, (fun z => by cases z), s_Math_min_II z⟩
        | false =>
          rw [hb] at z
          dsimp only at z
          cases z)
      (fun _ _ _ _ z => by cases z)
      (fun _ _ _ _ z => by cases z)
      (fun _ _ _ _ z => by cases z)
      (fun p e R s m args below meth c Q n0 F hret => ?_)
    rw [m1] at F hret ⊢
    rw [mc_Walk_noteEnds] at F hret
    exact cuts_s (K := 400) (M := 47) (D := D_Walk_noteEnds N) (B := fun _ _ _ _ _ => none) F hret (chkT_ok chk_Walk_noteEnds) (hM_Walk_noteEnds N) (fun _ _ _ _ _ z => by cases z) (hD_Walk_noteEnds N) N 0 _ _ _ hf
  · cases hf
def T_Walk_takeLast : List (List (Option RW)) := [
  [some (.aload_n 0, 1, [0], 0, 0), some (.getfield 15, 3, [10, 1, 0], 0, 0), none, none, some (.iload_n 2, 1, [2], 0, 0), some (.ishr, 1, [], 0, 0), some (.iconst 1, 1, [], 1, 0), some (.iand, 1, [], 0, 0), some (.istore 4, 2, [4], 0, 0), none, some (.aload_n 0, 1, [0], 0, 0), some (.getfield 44, 3, [10, 10, 2, 1, 6, 3], 0, 0), none, none, some (.iload_n 2, 1, [2], 0, 0), some (.iaload, 1, [], 0, 0), some (.aload_n 0, 1, [0], 0, 0), some (.getfield 41, 3, [10, 9, 2, 1, 6, 2], 0, 0), none, none, some (.iload_n 2, 1, [2], 0, 0), some (.iaload, 1, [], 0, 0), some (.isub, 1, [], 0, 0), some (.iconst 1, 1, [], 1, 0), some (.iadd, 1, [], 0, 0), some (.istore 5, 2, [5], 0, 0), none, some (.aload_n 1, 1, [1], 0, 0), some (.iload_n 2, 1, [2], 0, 0), some (.aload_n 0, 1, [0], 0, 0), some (.getfield 41, 3, [10, 9, 2, 1, 6, 2], 0, 0), none],
  [none, some (.iload_n 2, 1, [2], 0, 0), some (.iaload, 1, [], 0, 0), some (.invokevirtual 97, 3, [1, 3, 3, 3], 0, 0), none, none, some (.aload_n 0, 1, [0], 0, 0), some (.aload_n 1, 1, [1], 0, 0), some (.invokevirtual 146, 3, [0, 102, 2, 3], 0, 0), none, none, some (.aload_n 0, 1, [0], 0, 0), some (.iload_n 3, 1, [3], 0, 0), some (.aload_n 0, 1, [0], 0, 0), some (.getfield 41, 3, [10, 9, 2, 1, 6, 2], 0, 0), none, none, some (.iload_n 2, 1, [2], 0, 0), some (.iaload, 1, [], 0, 0), some (.iload 4, 2, [4], 0, 0), none, some (.imul, 1, [], 0, 0), some (.iadd, 1, [], 0, 0), some (.iload_n 3, 1, [3], 0, 0), some (.aload_n 0, 1, [0], 0, 0), some (.getfield 44, 3, [10, 10, 2, 1, 6, 3], 0, 0), none, none, some (.iload_n 2, 1, [2], 0, 0), some (.iaload, 1, [], 0, 0), some (.iload 4, 2, [4], 0, 0), none],
  [some (.imul, 1, [], 0, 0), some (.iadd, 1, [], 0, 0), some (.invokevirtual 150, 3, [0, 103, 3, 3], 0, 0), none, none, some (.aload_n 0, 1, [0], 0, 0), some (.dup, 1, [], 0, 0), some (.getfield 25, 3, [10, 4, 0], 0, 0), none, none, some (.iload 5, 2, [5], 0, 0), none, some (.iadd, 1, [], 0, 0), some (.putfield 25, 3, [10, 4, 0], 0, 0), none, none, some (.iload 4, 2, [4], 0, 0), none, some (.ifCond .eq 43, 3, [125], 0, 0), none, none, some (.aload_n 0, 1, [0], 0, 0), some (.dup, 1, [], 0, 0), some (.getfield 28, 3, [10, 5, 0], 0, 0), none, none, some (.iconst 0, 1, [], 0, 0), some (.aload_n 0, 1, [0], 0, 0), some (.getfield 44, 3, [10, 10, 2, 1, 6, 3], 0, 0), none, none, some (.iload_n 2, 1, [2], 0, 0)],
  [some (.iaload, 1, [], 0, 0), some (.aload_n 0, 1, [0], 0, 0), some (.getfield 41, 3, [10, 9, 2, 1, 6, 2], 0, 0), none, none, some (.iload_n 2, 1, [2], 0, 0), some (.iaload, 1, [], 0, 0), some (.aload_n 0, 1, [0], 0, 0), some (.getfield 18, 3, [10, 2, 0], 0, 0), none, none, some (.iload_n 3, 1, [3], 0, 0), some (.isub, 1, [], 0, 0), some (.invokestatic 140, 3, [2, 260, 2, 0], 0, 0), none, none, some (.isub, 1, [], 0, 0), some (.iconst 1, 1, [], 1, 0), some (.iadd, 1, [], 0, 0), some (.invokestatic 140, 3, [2, 260, 2, 0], 0, 0), none, none, some (.iadd, 1, [], 0, 0), some (.putfield 28, 3, [10, 5, 0], 0, 0), none, none, some (.goto 22, 3, [144], 0, 0), none, none, some (.iload_n 3, 1, [3], 0, 0), some (.aload_n 0, 1, [0], 0, 0), some (.getfield 18, 3, [10, 2, 0], 0, 0)],
  [none, none, some (.if_icmp .lt 14, 3, [144], 0, 0), none, none, some (.aload_n 0, 1, [0], 0, 0), some (.dup, 1, [], 0, 0), some (.getfield 28, 3, [10, 5, 0], 0, 0), none, none, some (.iload 5, 2, [5], 0, 0), none, some (.iadd, 1, [], 0, 0), some (.putfield 28, 3, [10, 5, 0], 0, 0), none, none, some (.return_, 1, [], 0, 0)]]
def f_Walk_takeLast (N : Nat) (a2 : Int32) (a3 : Int32) (h : MH) : Option (MH) :=
  let v1 : Int32 := (((gI h 42 1)) >>> (a2 &&& 31)) &&& 1
  if inB a2 6 = true then
  (if inB a2 6 = true then
  (let v2 : Int32 := ((gI h 45 (iN a2)) - (gI h 44 (iN a2))) + 1
  if inB a2 6 = true then
  ((f_Asked_put N a2 (gI h 44 (iN a2)) h).bind (fun x3 =>
  (f_Walk_noteFirst N x3).bind (fun x4 =>
  if inB a2 6 = true then
  (if inB a2 6 = true then
  ((f_Walk_noteEnds N (a3 + ((gI x4 44 (iN a2)) * v1)) (a3 + ((gI x4 45 (iN a2)) * v1)) x4).bind (fun x5 =>
  let h6 : MH := sI x5 42 4 ((gI x5 42 4) + v2)
  if v1 = 0 then
  (if a3 < (gI h6 42 2) then
  (some h6)
  else
  (let h7 : MH := sI h6 42 5 ((gI h6 42 5) + v2)
  some h7))
  else
  (if inB a2 6 = true then
  (if inB a2 6 = true then
  ((f_Math_max N (gI h6 44 (iN a2)) ((gI h6 42 2) - a3) h6).bind (fun x8 =>
  (f_Math_max N 0 (((gI h6 45 (iN a2)) - x8.1) + 1) x8.2).bind (fun x9 =>
  let h10 : MH := sI x9.2 42 5 ((gI h6 42 5) + x9.1)
  some h10)))
  else none)
  else none)))
  else none)
  else none)))
  else none)
  else none)
  else none
def C_Walk_takeLast (N : Nat) : MC := (KDL, false, (fun _ => 0), jsB, (fun j => match Nat.beq j 260 with
    | true => w_Math_max (f_Math_max N)
    | false => fun _ _ => none), (fun _ _ _ => none), (fun _ _ _ => none), (fun j => match Nat.beq j 3 with
    | true => w_Asked_put (f_Asked_put N)
    | false => match Nat.beq j 102 with
    | true => w_Walk_noteFirst (f_Walk_noteFirst N)
    | false => match Nat.beq j 103 with
    | true => w_Walk_noteEnds (f_Walk_noteEnds N)
    | false => fun _ _ => none))
def D_Walk_takeLast (N : Nat) (n pc : Nat) (lv : ML) (st : List MV) (h : MH) : Option (MH) :=
  match Nat.beq pc 0 with
  | true => (match lk lv 0, lk lv 1, lk lv 2, lk lv 3, st with
    | some (.inr (.inr (0, 10, 42))), some (.inr (.inr (0, 0, 33))), some (.inl a2), some (.inl a3), [] => f_Walk_takeLast N a2 a3 h
    | _, _, _, _, _ => none)
  | false => none
set_option maxRecDepth 1000000 in
theorem E_Walk_takeLast_0 (N : Nat) (n : Nat) (a2 : Int32) (a3 : Int32) (h : MH) : seg (C_Walk_takeLast N) 6 0 rV T_Walk_takeLast [0] (fun q lv st h => match Nat.ble 1 q with
    | true => D_Walk_takeLast N n q lv st h
    | false => none) 400 true 0 [(0, .inr (.inr (0, 10, 42))), (1, .inr (.inr (0, 0, 33))), (2, .inl a2), (3, .inl a3)] [] h = f_Walk_takeLast N a2 a3 h := (rfl)
set_option maxRecDepth 1000000 in
theorem chk_Walk_takeLast : chkT 10 false prog_12_method_9_code T_Walk_takeLast = true := by decide +kernel
theorem mc_Walk_takeLast : mC 99 = prog_12_method_9_code := by rfl
theorem mx_Walk_takeLast : mL 99 = 6 ∧ mR 99 = none ∧ mK 99 = 1 ∧ (mN 99).cls = cN 10 := by decide +kernel
theorem hD_Walk_takeLast (N : Nat) {r : MH} : ∀ n pc lv st h, D_Walk_takeLast N n pc lv st h = some r → ∃ lv', (∀ q ∈ lv', q ∈ lv) ∧ seg (C_Walk_takeLast N) 6 0 rV T_Walk_takeLast [0] (fun q lv st h => match Nat.ble (pc + 1) q with
    | true => D_Walk_takeLast N n q lv st h
    | false => none) 400 true pc lv' st h = some r := by
  intro n pc lv st h hf
  unfold D_Walk_takeLast at hf
  split at hf
  · rename_i hb
    have hb := Nat.eq_of_beq_eq_true hb
    subst hb
    split at hf
    · rename_i y0 y1 e0 e1 e2 e3
      exact ⟨_, (sub_cons e0 (sub_cons e1 (sub_cons e2 (sub_cons e3 sub_nil)))), (E_Walk_takeLast_0 N n _ _ h).trans hf⟩
    · cases hf
  · skip
    cases hf
theorem hM_Walk_takeLast (N : Nat) {r : MH} : ∀ n pc lv st h, D_Walk_takeLast N n pc lv st h = some r → pc < 145 := by
  intro n pc lv st h hf
  unfold D_Walk_takeLast at hf
  split at hf
  · rename_i hb
    rw [Nat.eq_of_beq_eq_true hb]
    decide
  · skip
    cases hf
theorem s_Walk_takeLast {l : Launch} {E : EV} {N : Nat} {as : List MV} {h : MH} {r : MH} (hf : w_Walk_takeLast (f_Walk_takeLast N) as h = some r) : SndM l E false 2 99 as h none r := by
  unfold w_Walk_takeLast at hf
  split at hf
  · obtain ⟨m1, m2, m3, m4⟩ := mx_Walk_takeLast
    refine snd_of (C := C_Walk_takeLast N) (own := 10) (rz := 0) (lim := 115) rV_eq m2 m4 pl_99 (TB_in _ cw_99 rfl) ⟨(fun _ => ⟨_, _, _, _, _, _, rfl, rfl, by rw [m4]; rfl⟩), (fun z => by rw [m3] at z; cases z)⟩ (fun z => by cases z) KDL_take rfl rfl (fun z => by cases z) (fun z => by cases z) (fun _ => rfl) (by rw [m1]; exact Nat.le_of_ble_eq_true rfl)
      (fun j as h x z => by
      dsimp only [C_Walk_takeLast] at z
      cases hb : Nat.beq j 260 with
      | true =>
        have hb := Nat.eq_of_beq_eq_true hb
        subst hb
        exact ⟨0, by decide, (fun z => by cases z), s_Math_max z⟩
      | false =>
        rw [hb] at z
        dsimp only at z
        cases z)
      (fun _ _ _ _ z => by cases z)
      (fun _ _ _ _ z => by cases z)
      (fun j as h x z => by
      dsimp only [C_Walk_takeLast] at z
      cases hb : Nat.beq j 3 with
      | true =>
        have hb := Nat.eq_of_beq_eq_true hb
        subst hb
        exact ⟨0, by decide, (fun z => by cases z), s_Asked_put z⟩
      | false =>
        rw [hb] at z
        dsimp only at z
        cases hb : Nat.beq j 102 with
        | true =>
          have hb := Nat.eq_of_beq_eq_true hb
          subst hb
          exact ⟨0, by decide, (fun z => by cases z), s_Walk_noteFirst z⟩
        | false =>
          rw [hb] at z
          dsimp only at z
          cases hb : Nat.beq j 103 with
          | true =>
            have hb := Nat.eq_of_beq_eq_true hb
            subst hb
            exact ⟨1, by decide, (fun z => by cases z), s_Walk_noteEnds z⟩
          | false =>
            rw [hb] at z
            dsimp only at z
            cases z)
      (fun p e R s m args below meth c Q n0 F hret => ?_)
    rw [m1] at F hret ⊢
    rw [mc_Walk_takeLast] at F hret
    exact cuts_s (K := 400) (M := 145) (D := D_Walk_takeLast N) (B := fun _ _ _ _ _ => none) F hret (chkT_ok chk_Walk_takeLast) (hM_Walk_takeLast N) (fun _ _ _ _ _ z => by cases z) (hD_Walk_takeLast N) N 0 _ _ _ hf
  · cases hf
def T_Walk_waysToReach : List (List (Option RW)) := [
  [some (.iload_n 1, 1, [1], 0, 0), some (.bipush 7, 2, [], 7, 0), none, some (.invokestatic 165, 3, [3, 151, 2, 0], 0, 0), none, none, some (.ifCond .eq 9, 3, [15], 0, 0), none, none, some (.iload_n 2, 1, [2], 0, 0), some (.bipush 54, 2, [], 54, 0), none, some (.if_icmp .le 5, 3, [17], 0, 0), none, none, some (.iconst 0, 1, [], 0, 0), some (.ireturn, 1, [], 0, 0), some (.aload_n 0, 1, [0], 0, 0), some (.getfield 47, 3, [10, 11, 2, 1, 385, 4], 0, 0), none, none, some (.iload_n 1, 1, [1], 0, 0), some (.bipush 55, 2, [], 55, 0), none, some (.imul, 1, [], 0, 0), some (.iload_n 2, 1, [2], 0, 0), some (.iconst 0, 1, [], 0, 0), some (.invokestatic 140, 3, [2, 260, 2, 0], 0, 0), none, none, some (.iadd, 1, [], 0, 0), some (.iaload, 1, [], 0, 0)],
  [some (.ireturn, 1, [], 0, 0)]]
def f_Walk_waysToReach (N : Nat) (a1 : Int32) (a2 : Int32) (h : MH) : Option (Int32 × MH) :=
  (f_S_isOneOf N a1 7 h).bind (fun x1 =>
  if x1.1 = 0 then
  (some (0, x1.2))
  else
  (if a2 ≤ 54 then
  ((f_Math_max N a2 0 x1.2).bind (fun x2 =>
  if inB ((a1 * 55) + x2.1) 385 = true then
  (some (gI x2.2 46 (iN ((a1 * 55) + x2.1)), x2.2))
  else none))
  else
  (some (0, x1.2))))
def C_Walk_waysToReach (N : Nat) : MC := (KDL, false, (fun _ => 0), jsB, (fun j => match Nat.beq j 151 with
    | true => w_S_isOneOf (f_S_isOneOf N)
    | false => match Nat.beq j 260 with
    | true => w_Math_max (f_Math_max N)
    | false => fun _ _ => none), (fun _ _ _ => none), (fun _ _ _ => none), (fun _ _ _ => none))
def D_Walk_waysToReach (N : Nat) (n pc : Nat) (lv : ML) (st : List MV) (h : MH) : Option (Int32 × MH) :=
  match Nat.beq pc 0 with
  | true => (match lk lv 0, lk lv 1, lk lv 2, st with
    | some (.inr (.inr (0, 10, 42))), some (.inl a1), some (.inl a2), [] => f_Walk_waysToReach N a1 a2 h
    | _, _, _, _ => none)
  | false => none
set_option maxRecDepth 1000000 in
theorem E_Walk_waysToReach_0 (N : Nat) (n : Nat) (a1 : Int32) (a2 : Int32) (h : MH) : seg (C_Walk_waysToReach N) 3 0 rI T_Walk_waysToReach [0] (fun q lv st h => match Nat.ble 1 q with
    | true => D_Walk_waysToReach N n q lv st h
    | false => none) 400 true 0 [(0, .inr (.inr (0, 10, 42))), (1, .inl a1), (2, .inl a2)] [] h = f_Walk_waysToReach N a1 a2 h := (rfl)
set_option maxRecDepth 1000000 in
theorem chk_Walk_waysToReach : chkT 10 false prog_12_method_11_code T_Walk_waysToReach = true := by decide +kernel
theorem mc_Walk_waysToReach : mC 101 = prog_12_method_11_code := by rfl
theorem mx_Walk_waysToReach : mL 101 = 3 ∧ mR 101 = some .int ∧ mK 101 = 1 ∧ (mN 101).cls = cN 10 := by decide +kernel
theorem hD_Walk_waysToReach (N : Nat) {r : Int32 × MH} : ∀ n pc lv st h, D_Walk_waysToReach N n pc lv st h = some r → ∃ lv', (∀ q ∈ lv', q ∈ lv) ∧ seg (C_Walk_waysToReach N) 3 0 rI T_Walk_waysToReach [0] (fun q lv st h => match Nat.ble (pc + 1) q with
    | true => D_Walk_waysToReach N n q lv st h
    | false => none) 400 true pc lv' st h = some r := by
  intro n pc lv st h hf
  unfold D_Walk_waysToReach at hf
  split at hf
  · rename_i hb
    have hb := Nat.eq_of_beq_eq_true hb
    subst hb
    split at hf
    · rename_i y0 y1 e0 e1 e2
      exact ⟨_, (sub_cons e0 (sub_cons e1 (sub_cons e2 sub_nil))), (E_Walk_waysToReach_0 N n _ _ h).trans hf⟩
    · cases hf
  · skip
    cases hf
theorem hM_Walk_waysToReach (N : Nat) {r : Int32 × MH} : ∀ n pc lv st h, D_Walk_waysToReach N n pc lv st h = some r → pc < 33 := by
  intro n pc lv st h hf
  unfold D_Walk_waysToReach at hf
  split at hf
  · rename_i hb
    rw [Nat.eq_of_beq_eq_true hb]
    decide
  · skip
    cases hf
theorem s_Walk_waysToReach {l : Launch} {E : EV} {N : Nat} {as : List MV} {h : MH} {r : Int32 × MH} (hf : w_Walk_waysToReach (f_Walk_waysToReach N) as h = some r) : SndM l E false 1 101 as h (some (.inl r.1)) r.2 := by
  unfold w_Walk_waysToReach at hf
  split at hf
  · obtain ⟨m1, m2, m3, m4⟩ := mx_Walk_waysToReach
    refine snd_of (C := C_Walk_waysToReach N) (own := 10) (rz := 0) (lim := 115) rI_eq m2 m4 pl_101 (TB_in _ cw_101 rfl) ⟨(fun _ => ⟨_, _, _, _, _, _, rfl, rfl, by rw [m4]; rfl⟩), (fun z => by rw [m3] at z; cases z)⟩ (fun z => by cases z) KDL_take rfl rfl (fun z => by cases z) (fun z => by cases z) (fun _ => rfl) (by rw [m1]; exact Nat.le_of_ble_eq_true rfl)
      (fun j as h x z => by
      dsimp only [C_Walk_waysToReach] at z
      cases hb : Nat.beq j 151 with
      | true =>
        have hb := Nat.eq_of_beq_eq_true hb
        subst hb
        exact ⟨0, by decide, (fun z => by cases z), s_S_isOneOf z⟩
      | false =>
        rw [hb] at z
        dsimp only at z
        cases hb : Nat.beq j 260 with
        | true =>
          have hb := Nat.eq_of_beq_eq_true hb
          subst hb
          exact ⟨0, by decide, (fun z => by cases z), s_Math_max z⟩
        | false =>
          rw [hb] at z
          dsimp only at z
          cases z)
      (fun _ _ _ _ z => by cases z)
      (fun _ _ _ _ z => by cases z)
      (fun _ _ _ _ z => by cases z)
      (fun p e R s m args below meth c Q n0 F hret => ?_)
    rw [m1] at F hret ⊢
    rw [mc_Walk_waysToReach] at F hret
    exact cuts_s (K := 400) (M := 33) (D := D_Walk_waysToReach N) (B := fun _ _ _ _ _ => none) F hret (chkT_ok chk_Walk_waysToReach) (hM_Walk_waysToReach N) (fun _ _ _ _ _ z => by cases z) (hD_Walk_waysToReach N) N 0 _ _ _ hf
  · cases hf
def T_Integer_bitCount : List (List (Option RW)) := [
  [some (.iload_n 0, 1, [0], 0, 0), some (.iload_n 0, 1, [0], 0, 0), some (.iconst 1, 1, [], 1, 0), some (.iushr, 1, [], 0, 0), some (.ldc_w 265, 3, [], 1431655765, 0), none, none, some (.iand, 1, [], 0, 0), some (.isub, 1, [], 0, 0), some (.istore_n 0, 1, [0], 0, 0), some (.iload_n 0, 1, [0], 0, 0), some (.ldc_w 266, 3, [], 858993459, 0), none, none, some (.iand, 1, [], 0, 0), some (.iload_n 0, 1, [0], 0, 0), some (.iconst 2, 1, [], 2, 0), some (.iushr, 1, [], 0, 0), some (.ldc_w 266, 3, [], 858993459, 0), none, none, some (.iand, 1, [], 0, 0), some (.iadd, 1, [], 0, 0), some (.istore_n 0, 1, [0], 0, 0), some (.iload_n 0, 1, [0], 0, 0), some (.iload_n 0, 1, [0], 0, 0), some (.iconst 4, 1, [], 4, 0), some (.iushr, 1, [], 0, 0), some (.iadd, 1, [], 0, 0), some (.ldc_w 267, 3, [], 252645135, 0), none, none],
  [some (.iand, 1, [], 0, 0), some (.istore_n 0, 1, [0], 0, 0), some (.iload_n 0, 1, [0], 0, 0), some (.iload_n 0, 1, [0], 0, 0), some (.bipush 8, 2, [], 8, 0), none, some (.iushr, 1, [], 0, 0), some (.iadd, 1, [], 0, 0), some (.istore_n 0, 1, [0], 0, 0), some (.iload_n 0, 1, [0], 0, 0), some (.iload_n 0, 1, [0], 0, 0), some (.bipush 16, 2, [], 16, 0), none, some (.iushr, 1, [], 0, 0), some (.iadd, 1, [], 0, 0), some (.istore_n 0, 1, [0], 0, 0), some (.iload_n 0, 1, [0], 0, 0), some (.bipush 63, 2, [], 63, 0), none, some (.iand, 1, [], 0, 0), some (.ireturn, 1, [], 0, 0)]]
def f_Integer_bitCount (N : Nat) (a0 : Int32) (h : MH) : Option (Int32 × MH) :=
  let v1 : Int32 := a0 - (((a0.toUInt32 >>> ((1 : Int32).toUInt32 &&& Int32.toUInt32 31)).toInt32) &&& 1431655765)
  let v2 : Int32 := (v1 &&& 858993459) + (((v1.toUInt32 >>> ((2 : Int32).toUInt32 &&& Int32.toUInt32 31)).toInt32) &&& 858993459)
  let v3 : Int32 := (v2 + ((v2.toUInt32 >>> ((4 : Int32).toUInt32 &&& Int32.toUInt32 31)).toInt32)) &&& 252645135
  let v4 : Int32 := v3 + ((v3.toUInt32 >>> ((8 : Int32).toUInt32 &&& Int32.toUInt32 31)).toInt32)
  let v5 : Int32 := v4 + ((v4.toUInt32 >>> ((16 : Int32).toUInt32 &&& Int32.toUInt32 31)).toInt32)
  some (v5 &&& 63, h)
def C_Integer_bitCount (N : Nat) : MC := (KDL, false, (fun _ => 0), jsB, (fun _ _ _ => none), (fun _ _ _ => none), (fun _ _ _ => none), (fun _ _ _ => none))
def D_Integer_bitCount (N : Nat) (n pc : Nat) (lv : ML) (st : List MV) (h : MH) : Option (Int32 × MH) :=
  match Nat.beq pc 0 with
  | true => (match lk lv 0, st with
    | some (.inl a0), [] => f_Integer_bitCount N a0 h
    | _, _ => none)
  | false => none
set_option maxRecDepth 1000000 in
theorem E_Integer_bitCount_0 (N : Nat) (n : Nat) (a0 : Int32) (h : MH) : seg (C_Integer_bitCount N) 1 0 rI T_Integer_bitCount [0] (fun q lv st h => match Nat.ble 1 q with
    | true => D_Integer_bitCount N n q lv st h
    | false => none) 400 true 0 [(0, .inl a0)] [] h = f_Integer_bitCount N a0 h := (rfl)
set_option maxRecDepth 1000000 in
theorem chk_Integer_bitCount : chkT 17 false prog_15_method_49_code T_Integer_bitCount = true := by decide +kernel
theorem mc_Integer_bitCount : mC 255 = prog_15_method_49_code := by rfl
theorem mx_Integer_bitCount : mL 255 = 1 ∧ mR 255 = some .int ∧ mK 255 = 0 ∧ (mN 255).cls = cN 17 := by decide +kernel
theorem hD_Integer_bitCount (N : Nat) {r : Int32 × MH} : ∀ n pc lv st h, D_Integer_bitCount N n pc lv st h = some r → ∃ lv', (∀ q ∈ lv', q ∈ lv) ∧ seg (C_Integer_bitCount N) 1 0 rI T_Integer_bitCount [0] (fun q lv st h => match Nat.ble (pc + 1) q with
    | true => D_Integer_bitCount N n q lv st h
    | false => none) 400 true pc lv' st h = some r := by
  intro n pc lv st h hf
  unfold D_Integer_bitCount at hf
  split at hf
  · rename_i hb
    have hb := Nat.eq_of_beq_eq_true hb
    subst hb
    split at hf
    · rename_i y0 e0
      exact ⟨_, (sub_cons e0 sub_nil), (E_Integer_bitCount_0 N n _ h).trans hf⟩
    · cases hf
  · skip
    cases hf
theorem hM_Integer_bitCount (N : Nat) {r : Int32 × MH} : ∀ n pc lv st h, D_Integer_bitCount N n pc lv st h = some r → pc < 53 := by
  intro n pc lv st h hf
  unfold D_Integer_bitCount at hf
  split at hf
  · rename_i hb
    rw [Nat.eq_of_beq_eq_true hb]
    decide
  · skip
    cases hf
theorem s_Integer_bitCount {l : Launch} {E : EV} {N : Nat} {as : List MV} {h : MH} {r : Int32 × MH} (hf : w_Integer_bitCount (f_Integer_bitCount N) as h = some r) : SndM l E false 0 255 as h (some (.inl r.1)) r.2 := by
  unfold w_Integer_bitCount at hf
  split at hf
  · obtain ⟨m1, m2, m3, m4⟩ := mx_Integer_bitCount
    refine snd_of (C := C_Integer_bitCount N) (own := 17) (rz := 0) (lim := 115) rI_eq m2 m4 pl_255 (TB_in _ cw_255 rfl) ⟨(fun z => by rw [m3] at z; cases z), (fun z => by rw [m3] at z; cases z)⟩ (fun z => by cases z) KDL_take rfl rfl (fun z => by cases z) (fun z => by cases z) (fun _ => rfl) (by rw [m1]; exact Nat.le_of_ble_eq_true rfl)
      (fun _ _ _ _ z => by cases z)
      (fun _ _ _ _ z => by cases z)
      (fun _ _ _ _ z => by cases z)
      (fun _ _ _ _ z => by cases z)
      (fun p e R s m args below meth c Q n0 F hret => ?_)
    rw [m1] at F hret ⊢
    rw [mc_Integer_bitCount] at F hret
    exact cuts_s (K := 400) (M := 53) (D := D_Integer_bitCount N) (B := fun _ _ _ _ _ => none) F hret (chkT_ok chk_Integer_bitCount) (hM_Integer_bitCount N) (fun _ _ _ _ _ z => by cases z) (hD_Integer_bitCount N) N 0 _ _ _ hf
  · cases hf
def T_Walk_takeAnyFrom : List (List (Option RW)) := [
  [some (.aload_n 0, 1, [0], 0, 0), some (.getfield 15, 3, [10, 1, 0], 0, 0), none, none, some (.iload_n 2, 1, [2], 0, 0), some (.ishr, 1, [], 0, 0), some (.invokestatic 153, 3, [2, 255, 1, 0], 0, 0), none, none, some (.istore 4, 2, [4], 0, 0), none, some (.aload_n 1, 1, [1], 0, 0), some (.getfield 76, 3, [0, 0, 0], 0, 0), none, none, some (.iload_n 2, 1, [2], 0, 0), some (.isub, 1, [], 0, 0), some (.iload 4, 2, [4], 0, 0), none, some (.isub, 1, [], 0, 0), some (.istore 5, 2, [5], 0, 0), none, some (.iload_n 2, 1, [2], 0, 0), some (.istore 6, 2, [6], 0, 0), none, some (.iload 6, 2, [6], 0, 0), none, some (.aload_n 1, 1, [1], 0, 0), some (.getfield 76, 3, [0, 0, 0], 0, 0), none, none, some (.if_icmp .ge 17, 3, [48], 0, 0)],
  [none, none, some (.aload_n 1, 1, [1], 0, 0), some (.getfield 159, 3, [0, 9, 2, 1, 6, 7], 0, 0), none, none, some (.iload 6, 2, [6], 0, 0), none, some (.iconst 0, 1, [], 0, 0), some (.iastore, 1, [], 0, 0), some (.iinc 6 1, 3, [6], 1, 0), none, none, some (.goto (-20), 3, [25], 0, 0), none, none, some (.aload_n 0, 1, [0], 0, 0), some (.aload_n 1, 1, [1], 0, 0), some (.invokevirtual 146, 3, [0, 102, 2, 3], 0, 0), none, none, some (.aload_n 0, 1, [0], 0, 0), some (.iload_n 3, 1, [3], 0, 0), some (.iload_n 3, 1, [3], 0, 0), some (.bipush 9, 2, [], 9, 0), none, some (.iload 4, 2, [4], 0, 0), none, some (.imul, 1, [], 0, 0), some (.iadd, 1, [], 0, 0), some (.invokevirtual 150, 3, [0, 103, 3, 3], 0, 0), none],
  [none, some (.aload_n 0, 1, [0], 0, 0), some (.dup, 1, [], 0, 0), some (.getfield 25, 3, [10, 4, 0], 0, 0), none, none, some (.aload_n 0, 1, [0], 0, 0), some (.aload_n 1, 1, [1], 0, 0), some (.getfield 76, 3, [0, 0, 0], 0, 0), none, none, some (.iload_n 2, 1, [2], 0, 0), some (.isub, 1, [], 0, 0), some (.iconst 0, 1, [], 0, 0), some (.invokevirtual 162, 3, [0, 101, 3, 0], 0, 0), none, none, some (.iadd, 1, [], 0, 0), some (.putfield 25, 3, [10, 4, 0], 0, 0), none, none, some (.aload_n 0, 1, [0], 0, 0), some (.dup, 1, [], 0, 0), some (.getfield 28, 3, [10, 5, 0], 0, 0), none, none, some (.aload_n 0, 1, [0], 0, 0), some (.iload 4, 2, [4], 0, 0), none, some (.aload_n 0, 1, [0], 0, 0), some (.getfield 18, 3, [10, 2, 0], 0, 0), none],
  [none, some (.iload_n 3, 1, [3], 0, 0), some (.isub, 1, [], 0, 0), some (.invokevirtual 162, 3, [0, 101, 3, 0], 0, 0), none, none, some (.aload_n 0, 1, [0], 0, 0), some (.iload 5, 2, [5], 0, 0), none, some (.iconst 0, 1, [], 0, 0), some (.invokevirtual 162, 3, [0, 101, 3, 0], 0, 0), none, none, some (.imul, 1, [], 0, 0), some (.iadd, 1, [], 0, 0), some (.putfield 28, 3, [10, 5, 0], 0, 0), none, none, some (.return_, 1, [], 0, 0)]]
def F_Walk_takeAnyFrom_25 (N : Nat) (bk : (Int32 → Int32 → Int32 → Int32 → Int32 → MH → Option (MH))) (a2 : Int32) (a3 : Int32) (a4 : Int32) (a5 : Int32) (a6 : Int32) (h : MH) : Option (MH) :=
  if (gI h 33 0) ≤ a6 then
  ((f_Walk_noteFirst N h).bind (fun x3 =>
  (f_Walk_noteEnds N a3 (a3 + (9 * a4)) x3).bind (fun x4 =>
  (f_Walk_waysToReach N ((gI x4 33 0) - a2) 0 x4).bind (fun x5 =>
  let h6 : MH := sI x5.2 42 4 ((gI x4 42 4) + x5.1)
  (f_Walk_waysToReach N a4 ((gI h6 42 2) - a3) h6).bind (fun x7 =>
  (f_Walk_waysToReach N a5 0 x7.2).bind (fun x8 =>
  let h9 : MH := sI x8.2 42 5 ((gI h6 42 5) + (x7.1 * x8.1))
  some h9))))))
  else
  (if inB a6 6 = true then
  (let h10 : MH := sI h 40 (iN a6) 0
  let v11 : Int32 := a6 + 1
  bk a2 a3 a4 a5 v11 h10)
  else none)
def F_Walk_takeAnyFrom_0 (N : Nat) (bk : (Int32 → Int32 → Int32 → Int32 → Int32 → MH → Option (MH))) (a2 : Int32) (a3 : Int32) (h : MH) : Option (MH) :=
  (f_Integer_bitCount N (((gI h 42 1)) >>> (a2 &&& 31)) h).bind (fun x1 =>
  let v2 : Int32 := ((gI x1.2 33 0) - a2) - x1.1
  F_Walk_takeAnyFrom_25 N bk a2 a3 x1.1 v2 a2 x1.2)
def L_Walk_takeAnyFrom (N : Nat) : Nat → (Int32 → Int32 → Int32 → Int32 → Int32 → MH → Option (MH))
  | 0 => fun _ _ _ _ _ _ => none
  | n + 1 => F_Walk_takeAnyFrom_25 N (L_Walk_takeAnyFrom N n)
def f_Walk_takeAnyFrom (N : Nat) (a2 : Int32) (a3 : Int32) (h : MH) : Option (MH) := F_Walk_takeAnyFrom_0 N (L_Walk_takeAnyFrom N N) a2 a3 h
def C_Walk_takeAnyFrom (N : Nat) : MC := (KDL, false, (fun _ => 0), jsB, (fun j => match Nat.beq j 101 with
    | true => w_Walk_waysToReach (f_Walk_waysToReach N)
    | false => match Nat.beq j 255 with
    | true => w_Integer_bitCount (f_Integer_bitCount N)
    | false => fun _ _ => none), (fun _ _ _ => none), (fun _ _ _ => none), (fun j => match Nat.beq j 102 with
    | true => w_Walk_noteFirst (f_Walk_noteFirst N)
    | false => match Nat.beq j 103 with
    | true => w_Walk_noteEnds (f_Walk_noteEnds N)
    | false => fun _ _ => none))
def D_Walk_takeAnyFrom (N : Nat) (n pc : Nat) (lv : ML) (st : List MV) (h : MH) : Option (MH) :=
  match Nat.beq pc 0 with
  | true => (match lk lv 0, lk lv 1, lk lv 2, lk lv 3, st with
    | some (.inr (.inr (0, 10, 42))), some (.inr (.inr (0, 0, 33))), some (.inl a2), some (.inl a3), [] => F_Walk_takeAnyFrom_0 N (L_Walk_takeAnyFrom N n) a2 a3 h
    | _, _, _, _, _ => none)
  | false => match Nat.beq pc 25 with
  | true => (match lk lv 0, lk lv 1, lk lv 2, lk lv 3, lk lv 4, lk lv 5, lk lv 6, st with
    | some (.inr (.inr (0, 10, 42))), some (.inr (.inr (0, 0, 33))), some (.inl a2), some (.inl a3), some (.inl a4), some (.inl a5), some (.inl a6), [] => F_Walk_takeAnyFrom_25 N (L_Walk_takeAnyFrom N n) a2 a3 a4 a5 a6 h
    | _, _, _, _, _, _, _, _ => none)
  | false => none
def B_Walk_takeAnyFrom (N : Nat) (n pc : Nat) (lv : ML) (st : List MV) (h : MH) : Option (MH) :=
  match Nat.beq pc 25 with
  | true => (match lk lv 0, lk lv 1, lk lv 2, lk lv 3, lk lv 4, lk lv 5, lk lv 6, st with
    | some (.inr (.inr (0, 10, 42))), some (.inr (.inr (0, 0, 33))), some (.inl a2), some (.inl a3), some (.inl a4), some (.inl a5), some (.inl a6), [] => ((L_Walk_takeAnyFrom N n)) a2 a3 a4 a5 a6 h
    | _, _, _, _, _, _, _, _ => none)
  | false => none
set_option maxRecDepth 1000000 in
theorem E_Walk_takeAnyFrom_0 (N : Nat) (n : Nat) (a2 : Int32) (a3 : Int32) (h : MH) : seg (C_Walk_takeAnyFrom N) 7 0 rV T_Walk_takeAnyFrom [0, 25] (fun q lv st h => match Nat.ble 1 q with
    | true => D_Walk_takeAnyFrom N n q lv st h
    | false => B_Walk_takeAnyFrom N n q lv st h) 400 true 0 [(0, .inr (.inr (0, 10, 42))), (1, .inr (.inr (0, 0, 33))), (2, .inl a2), (3, .inl a3)] [] h = F_Walk_takeAnyFrom_0 N (L_Walk_takeAnyFrom N n) a2 a3 h := (rfl)
set_option maxRecDepth 1000000 in
theorem E_Walk_takeAnyFrom_25 (N : Nat) (n : Nat) (a2 : Int32) (a3 : Int32) (a4 : Int32) (a5 : Int32) (a6 : Int32) (h : MH) : seg (C_Walk_takeAnyFrom N) 7 0 rV T_Walk_takeAnyFrom [0, 25] (fun q lv st h => match Nat.ble 26 q with
    | true => D_Walk_takeAnyFrom N n q lv st h
    | false => B_Walk_takeAnyFrom N n q lv st h) 400 true 25 [(0, .inr (.inr (0, 10, 42))), (1, .inr (.inr (0, 0, 33))), (2, .inl a2), (3, .inl a3), (4, .inl a4), (5, .inl a5), (6, .inl a6)] [] h = F_Walk_takeAnyFrom_25 N (L_Walk_takeAnyFrom N n) a2 a3 a4 a5 a6 h := (rfl)
set_option maxRecDepth 1000000 in
theorem chk_Walk_takeAnyFrom : chkT 10 false prog_12_method_10_code T_Walk_takeAnyFrom = true := by decide +kernel
theorem mc_Walk_takeAnyFrom : mC 100 = prog_12_method_10_code := by rfl
theorem mx_Walk_takeAnyFrom : mL 100 = 7 ∧ mR 100 = none ∧ mK 100 = 1 ∧ (mN 100).cls = cN 10 := by decide +kernel
theorem hD_Walk_takeAnyFrom (N : Nat) {r : MH} : ∀ n pc lv st h, D_Walk_takeAnyFrom N n pc lv st h = some r → ∃ lv', (∀ q ∈ lv', q ∈ lv) ∧ seg (C_Walk_takeAnyFrom N) 7 0 rV T_Walk_takeAnyFrom [0, 25] (fun q lv st h => match Nat.ble (pc + 1) q with
    | true => D_Walk_takeAnyFrom N n q lv st h
    | false => B_Walk_takeAnyFrom N n q lv st h) 400 true pc lv' st h = some r := by
  intro n pc lv st h hf
  unfold D_Walk_takeAnyFrom at hf
  split at hf
  · rename_i hb
    have hb := Nat.eq_of_beq_eq_true hb
    subst hb
    split at hf
    · rename_i y0 y1 e0 e1 e2 e3
      exact ⟨_, (sub_cons e0 (sub_cons e1 (sub_cons e2 (sub_cons e3 sub_nil)))), (E_Walk_takeAnyFrom_0 N n _ _ h).trans hf⟩
    · cases hf
  · skip
    split at hf
    · rename_i hb
      have hb := Nat.eq_of_beq_eq_true hb
      subst hb
      split at hf
      · rename_i y0 y1 y2 y3 y4 e0 e1 e2 e3 e4 e5 e6
        exact ⟨_, (sub_cons e0 (sub_cons e1 (sub_cons e2 (sub_cons e3 (sub_cons e4 (sub_cons e5 (sub_cons e6 sub_nil))))))), (E_Walk_takeAnyFrom_25 N n _ _ _ _ _ h).trans hf⟩
      · cases hf
    · skip
      cases hf
theorem hM_Walk_takeAnyFrom (N : Nat) {r : MH} : ∀ n pc lv st h, D_Walk_takeAnyFrom N n pc lv st h = some r → pc < 115 := by
  intro n pc lv st h hf
  unfold D_Walk_takeAnyFrom at hf
  split at hf
  · rename_i hb
    rw [Nat.eq_of_beq_eq_true hb]
    decide
  · skip
    split at hf
    · rename_i hb
      rw [Nat.eq_of_beq_eq_true hb]
      decide
    · skip
      cases hf
theorem hB_Walk_takeAnyFrom (N : Nat) {r : MH} : ∀ n pc lv st h, B_Walk_takeAnyFrom N n pc lv st h = some r → ∃ k, n = k + 1 ∧ D_Walk_takeAnyFrom N k pc lv st h = some r := by
  intro n pc lv st h hf
  unfold B_Walk_takeAnyFrom at hf
  split at hf
  · rename_i hb
    have hb := Nat.eq_of_beq_eq_true hb
    subst hb
    cases n with
    | zero =>
      split at hf
      · cases hf
      · cases hf
    | succ k =>
      refine ⟨k, rfl, ?_⟩
      exact hf
  · skip
    cases hf
theorem s_Walk_takeAnyFrom {l : Launch} {E : EV} {N : Nat} {as : List MV} {h : MH} {r : MH} (hf : w_Walk_takeAnyFrom (f_Walk_takeAnyFrom N) as h = some r) : SndM l E false 2 100 as h none r := by
  unfold w_Walk_takeAnyFrom at hf
  split at hf
  · obtain ⟨m1, m2, m3, m4⟩ := mx_Walk_takeAnyFrom
    refine snd_of (C := C_Walk_takeAnyFrom N) (own := 10) (rz := 0) (lim := 115) rV_eq m2 m4 pl_100 (TB_in _ cw_100 rfl) ⟨(fun _ => ⟨_, _, _, _, _, _, rfl, rfl, by rw [m4]; rfl⟩), (fun z => by rw [m3] at z; cases z)⟩ (fun z => by cases z) KDL_take rfl rfl (fun z => by cases z) (fun z => by cases z) (fun _ => rfl) (by rw [m1]; exact Nat.le_of_ble_eq_true rfl)
      (fun j as h x z => by
      dsimp only [C_Walk_takeAnyFrom] at z
      cases hb : Nat.beq j 101 with
      | true =>
        have hb := Nat.eq_of_beq_eq_true hb
        subst hb
        exact ⟨1, by decide, (fun z => by cases z), s_Walk_waysToReach z⟩
      | false =>
        rw [hb] at z
        dsimp only at z
        cases hb : Nat.beq j 255 with
        | true =>
          have hb := Nat.eq_of_beq_eq_true hb
          subst hb
          exact ⟨0, by decide, (fun z => by cases z), s_Integer_bitCount z⟩
        | false =>
          rw [hb] at z
          dsimp only at z
          cases z)
      (fun _ _ _ _ z => by cases z)
      (fun _ _ _ _ z => by cases z)
      (fun j as h x z => by
      dsimp only [C_Walk_takeAnyFrom] at z
      cases hb : Nat.beq j 102 with
      | true =>
        have hb := Nat.eq_of_beq_eq_true hb
        subst hb
        exact ⟨0, by decide, (fun z => by cases z), s_Walk_noteFirst z⟩
      | false =>
        rw [hb] at z
        dsimp only at z
        cases hb : Nat.beq j 103 with
        | true =>
          have hb := Nat.eq_of_beq_eq_true hb
          subst hb
          exact ⟨1, by decide, (fun z => by cases z), s_Walk_noteEnds z⟩
        | false =>
          rw [hb] at z
          dsimp only at z
          cases z)
      (fun p e R s m args below meth c Q n0 F hret => ?_)
    rw [m1] at F hret ⊢
    rw [mc_Walk_takeAnyFrom] at F hret
    exact cuts_s (K := 400) (M := 115) (D := D_Walk_takeAnyFrom N) (B := B_Walk_takeAnyFrom N) F hret (chkT_ok chk_Walk_takeAnyFrom) (hM_Walk_takeAnyFrom N) (hB_Walk_takeAnyFrom N) (hD_Walk_takeAnyFrom N) N 0 _ _ _ hf
  · cases hf
def T_Walk_visit : List (List (Option RW)) := [
  [some (.iload_n 2, 1, [2], 0, 0), some (.aload_n 1, 1, [1], 0, 0), some (.getfield 76, 3, [0, 0, 0], 0, 0), none, none, some (.if_icmp .ge 9, 3, [14], 0, 0), none, none, some (.iload_n 2, 1, [2], 0, 0), some (.bipush 6, 2, [], 6, 0), none, some (.if_icmp .lt 4, 3, [15], 0, 0), none, none, some (.return_, 1, [], 0, 0), some (.aload_n 1, 1, [1], 0, 0), some (.iload_n 2, 1, [2], 0, 0), some (.iload_n 3, 1, [3], 0, 0), some (.invokevirtual 79, 3, [1, 6, 3, 0], 0, 0), none, none, some (.istore 5, 2, [5], 0, 0), none, some (.iload 5, 2, [5], 0, 0), none, some (.ifCond .ne 21, 3, [46], 0, 0), none, none, some (.aload_n 0, 1, [0], 0, 0), some (.aload_n 1, 1, [1], 0, 0), some (.iload_n 2, 1, [2], 0, 0), some (.invokevirtual 83, 3, [0, 96, 3, 0], 0, 0)],
  [none, none, some (.ifCond .eq 12, 3, [46], 0, 0), none, none, some (.aload_n 0, 1, [0], 0, 0), some (.aload_n 1, 1, [1], 0, 0), some (.iload_n 2, 1, [2], 0, 0), some (.iload 4, 2, [4], 0, 0), none, some (.invokevirtual 87, 3, [0, 100, 4, 3], 0, 0), none, none, some (.return_, 1, [], 0, 0), some (.aload_n 0, 1, [0], 0, 0), some (.aload_n 1, 1, [1], 0, 0), some (.iload_n 2, 1, [2], 0, 0), some (.iload 5, 2, [5], 0, 0), none, some (.invokevirtual 91, 3, [0, 97, 4, 3], 0, 0), none, none, some (.aload_n 0, 1, [0], 0, 0), some (.getfield 41, 3, [10, 9, 2, 1, 6, 2], 0, 0), none, none, some (.iload_n 2, 1, [2], 0, 0), some (.iaload, 1, [], 0, 0), some (.aload_n 0, 1, [0], 0, 0), some (.getfield 44, 3, [10, 10, 2, 1, 6, 3], 0, 0), none, none],
  [some (.iload_n 2, 1, [2], 0, 0), some (.iaload, 1, [], 0, 0), some (.if_icmp .le 4, 3, [70], 0, 0), none, none, some (.return_, 1, [], 0, 0), some (.iload_n 2, 1, [2], 0, 0), some (.aload_n 1, 1, [1], 0, 0), some (.getfield 76, 3, [0, 0, 0], 0, 0), none, none, some (.iconst 1, 1, [], 1, 0), some (.isub, 1, [], 0, 0), some (.if_icmp .ne 12, 3, [89], 0, 0), none, none, some (.aload_n 0, 1, [0], 0, 0), some (.aload_n 1, 1, [1], 0, 0), some (.iload_n 2, 1, [2], 0, 0), some (.iload 4, 2, [4], 0, 0), none, some (.invokevirtual 94, 3, [0, 99, 4, 3], 0, 0), none, none, some (.return_, 1, [], 0, 0), some (.aload_n 0, 1, [0], 0, 0), some (.getfield 44, 3, [10, 10, 2, 1, 6, 3], 0, 0), none, none, some (.iload_n 2, 1, [2], 0, 0), some (.iaload, 1, [], 0, 0), some (.istore 6, 2, [6], 0, 0)],
  [none, some (.aload_n 0, 1, [0], 0, 0), some (.getfield 41, 3, [10, 9, 2, 1, 6, 2], 0, 0), none, none, some (.iload_n 2, 1, [2], 0, 0), some (.iaload, 1, [], 0, 0), some (.istore 7, 2, [7], 0, 0), none, some (.iload 7, 2, [7], 0, 0), none, some (.iload 6, 2, [6], 0, 0), none, some (.if_icmp .gt 54, 3, [163], 0, 0), none, none, some (.aload_n 0, 1, [0], 0, 0), some (.getfield 21, 3, [10, 3, 0], 0, 0), none, none, some (.ifCond .eq 10, 3, [126], 0, 0), none, none, some (.aload_n 0, 1, [0], 0, 0), some (.getfield 25, 3, [10, 4, 0], 0, 0), none, none, some (.ifCond .gt 40, 3, [163], 0, 0), none, none, some (.aload_n 1, 1, [1], 0, 0), some (.iload_n 2, 1, [2], 0, 0)],
  [some (.iload 7, 2, [7], 0, 0), none, some (.invokevirtual 97, 3, [1, 3, 3, 3], 0, 0), none, none, some (.aload_n 0, 1, [0], 0, 0), some (.aload_n 1, 1, [1], 0, 0), some (.iload_n 2, 1, [2], 0, 0), some (.iconst 1, 1, [], 1, 0), some (.iadd, 1, [], 0, 0), some (.iload 5, 2, [5], 0, 0), none, some (.iload 4, 2, [4], 0, 0), none, some (.iload 7, 2, [7], 0, 0), none, some (.aload_n 0, 1, [0], 0, 0), some (.getfield 15, 3, [10, 1, 0], 0, 0), none, none, some (.iload_n 2, 1, [2], 0, 0), some (.ishr, 1, [], 0, 0), some (.iconst 1, 1, [], 1, 0), some (.iand, 1, [], 0, 0), some (.imul, 1, [], 0, 0), some (.iadd, 1, [], 0, 0), some (.invokevirtual 72, 3, [0, 95, 5, 3], 0, 0), none, none, some (.iinc 7 1, 3, [7], 1, 0), none, none],
  [some (.goto (-55), 3, [105], 0, 0), none, none, some (.return_, 1, [], 0, 0)]]
def F_Walk_visit_126 (N : Nat) (rc : (Int32 → Int32 → Int32 → MH → Option (MH))) (bk : (Int32 → Int32 → Int32 → Int32 → Int32 → MH → Option (MH))) (a2 : Int32) (a4 : Int32) (a5 : Int32) (a6 : Int32) (a7 : Int32) (h : MH) : Option (MH) :=
  (f_Asked_put N a2 a7 h).bind (fun x8 =>
  (rc (a2 + 1) a5 (a4 + (a7 * ((((gI x8 42 1)) >>> (a2 &&& 31)) &&& 1))) x8).bind (fun x9 =>
  let v10 : Int32 := a7 + 1
  bk a2 a4 a5 a6 v10 x9))
def F_Walk_visit_105 (N : Nat) (rc : (Int32 → Int32 → Int32 → MH → Option (MH))) (bk : (Int32 → Int32 → Int32 → Int32 → Int32 → MH → Option (MH))) (a2 : Int32) (a4 : Int32) (a5 : Int32) (a6 : Int32) (a7 : Int32) (h : MH) : Option (MH) :=
  if a6 < a7 then
  (some h)
  else
  (if (gI h 42 3) = 0 then
  (F_Walk_visit_126 N rc bk a2 a4 a5 a6 a7 h)
  else
  (if 0 < (gI h 42 4) then
  (some h)
  else
  (F_Walk_visit_126 N rc bk a2 a4 a5 a6 a7 h)))
def F_Walk_visit_46 (N : Nat) (rc : (Int32 → Int32 → Int32 → MH → Option (MH))) (bk : (Int32 → Int32 → Int32 → Int32 → Int32 → MH → Option (MH))) (a2 : Int32) (a4 : Int32) (a5 : Int32) (h : MH) : Option (MH) :=
  (f_Walk_narrow N a2 a5 h).bind (fun x4 =>
  if inB a2 6 = true then
  (if inB a2 6 = true then
  (if (gI x4 44 (iN a2)) ≤ (gI x4 45 (iN a2)) then
  (if a2 = ((gI x4 33 0) - 1) then
  ((f_Walk_takeLast N a2 a4 x4).bind (fun x5 =>
  some x5))
  else
  (if inB a2 6 = true then
  (let v6 : Int32 := gI x4 45 (iN a2)
  if inB a2 6 = true then
  (let v7 : Int32 := gI x4 44 (iN a2)
  F_Walk_visit_105 N rc bk a2 a4 a5 v6 v7 x4)
  else none)
  else none))
  else
  (some x4))
  else none)
  else none)
def F_Walk_visit_0 (N : Nat) (rc : (Int32 → Int32 → Int32 → MH → Option (MH))) (bk : (Int32 → Int32 → Int32 → Int32 → Int32 → MH → Option (MH))) (a2 : Int32) (a3 : Int32) (a4 : Int32) (h : MH) : Option (MH) :=
  if (gI h 33 0) ≤ a2 then
  (some h)
  else
  (if a2 < 6 then
  ((f_Asked_stillOpen N a2 a3 h).bind (fun x1 =>
  if x1.1 = 0 then
  ((f_Walk_isLoose N a2 x1.2).bind (fun x2 =>
  if x2.1 = 0 then
  (F_Walk_visit_46 N rc bk a2 a4 x1.1 x2.2)
  else
  ((f_Walk_takeAnyFrom N a2 a4 x2.2).bind (fun x3 =>
  some x3))))
  else
  (F_Walk_visit_46 N rc bk a2 a4 x1.1 x1.2)))
  else
  (some h))
def L_Walk_visit (N : Nat) (rc : (Int32 → Int32 → Int32 → MH → Option (MH))) : Nat → (Int32 → Int32 → Int32 → Int32 → Int32 → MH → Option (MH))
  | 0 => fun _ _ _ _ _ _ => none
  | n + 1 => F_Walk_visit_105 N rc (L_Walk_visit N rc n)
def g_Walk_visit (N : Nat) (rc : (Int32 → Int32 → Int32 → MH → Option (MH))) (a2 : Int32) (a3 : Int32) (a4 : Int32) (h : MH) : Option (MH) := F_Walk_visit_0 N rc (L_Walk_visit N rc N) a2 a3 a4 h
def f_Walk_visit (N : Nat) : Nat → Int32 → Int32 → Int32 → MH → Option (MH)
  | 0 => fun _ _ _ _ => none
  | d + 1 => g_Walk_visit N (f_Walk_visit N d)
def C_Walk_visit (N : Nat) (rc : (Int32 → Int32 → Int32 → MH → Option (MH))) : MC := (KDL, false, (fun _ => 0), jsB, (fun j => match Nat.beq j 6 with
    | true => w_Asked_stillOpen (f_Asked_stillOpen N)
    | false => match Nat.beq j 96 with
    | true => w_Walk_isLoose (f_Walk_isLoose N)
    | false => fun _ _ => none), (fun _ _ _ => none), (fun _ _ _ => none), (fun j => match Nat.beq j 3 with
    | true => w_Asked_put (f_Asked_put N)
    | false => match Nat.beq j 95 with
    | true => w_Walk_visit (rc)
    | false => match Nat.beq j 97 with
    | true => w_Walk_narrow (f_Walk_narrow N)
    | false => match Nat.beq j 99 with
    | true => w_Walk_takeLast (f_Walk_takeLast N)
    | false => match Nat.beq j 100 with
    | true => w_Walk_takeAnyFrom (f_Walk_takeAnyFrom N)
    | false => fun _ _ => none))
def D_Walk_visit (N : Nat) (rc : (Int32 → Int32 → Int32 → MH → Option (MH))) (n pc : Nat) (lv : ML) (st : List MV) (h : MH) : Option (MH) :=
  match Nat.beq pc 0 with
  | true => (match lk lv 0, lk lv 1, lk lv 2, lk lv 3, lk lv 4, st with
    | some (.inr (.inr (0, 10, 42))), some (.inr (.inr (0, 0, 33))), some (.inl a2), some (.inl a3), some (.inl a4), [] => F_Walk_visit_0 N rc (L_Walk_visit N rc n) a2 a3 a4 h
    | _, _, _, _, _, _ => none)
  | false => match Nat.beq pc 46 with
  | true => (match lk lv 0, lk lv 1, lk lv 2, lk lv 4, lk lv 5, st with
    | some (.inr (.inr (0, 10, 42))), some (.inr (.inr (0, 0, 33))), some (.inl a2), some (.inl a4), some (.inl a5), [] => F_Walk_visit_46 N rc (L_Walk_visit N rc n) a2 a4 a5 h
    | _, _, _, _, _, _ => none)
  | false => match Nat.beq pc 105 with
  | true => (match lk lv 0, lk lv 1, lk lv 2, lk lv 4, lk lv 5, lk lv 6, lk lv 7, st with
    | some (.inr (.inr (0, 10, 42))), some (.inr (.inr (0, 0, 33))), some (.inl a2), some (.inl a4), some (.inl a5), some (.inl a6), some (.inl a7), [] => F_Walk_visit_105 N rc (L_Walk_visit N rc n) a2 a4 a5 a6 a7 h
    | _, _, _, _, _, _, _, _ => none)
  | false => match Nat.beq pc 126 with
  | true => (match lk lv 0, lk lv 1, lk lv 2, lk lv 4, lk lv 5, lk lv 6, lk lv 7, st with
    | some (.inr (.inr (0, 10, 42))), some (.inr (.inr (0, 0, 33))), some (.inl a2), some (.inl a4), some (.inl a5), some (.inl a6), some (.inl a7), [] => F_Walk_visit_126 N rc (L_Walk_visit N rc n) a2 a4 a5 a6 a7 h
    | _, _, _, _, _, _, _, _ => none)
  | false => none
def B_Walk_visit (N : Nat) (rc : (Int32 → Int32 → Int32 → MH → Option (MH))) (n pc : Nat) (lv : ML) (st : List MV) (h : MH) : Option (MH) :=
  match Nat.beq pc 105 with
  | true => (match lk lv 0, lk lv 1, lk lv 2, lk lv 4, lk lv 5, lk lv 6, lk lv 7, st with
    | some (.inr (.inr (0, 10, 42))), some (.inr (.inr (0, 0, 33))), some (.inl a2), some (.inl a4), some (.inl a5), some (.inl a6), some (.inl a7), [] => ((L_Walk_visit N rc n)) a2 a4 a5 a6 a7 h
    | _, _, _, _, _, _, _, _ => none)
  | false => none
set_option maxRecDepth 1000000 in
theorem E_Walk_visit_0 (N : Nat) (rc : (Int32 → Int32 → Int32 → MH → Option (MH))) (n : Nat) (a2 : Int32) (a3 : Int32) (a4 : Int32) (h : MH) : seg (C_Walk_visit N rc) 8 0 rV T_Walk_visit [0, 46, 105, 126] (fun q lv st h => match Nat.ble 1 q with
    | true => D_Walk_visit N rc n q lv st h
    | false => B_Walk_visit N rc n q lv st h) 400 true 0 [(0, .inr (.inr (0, 10, 42))), (1, .inr (.inr (0, 0, 33))), (2, .inl a2), (3, .inl a3), (4, .inl a4)] [] h = F_Walk_visit_0 N rc (L_Walk_visit N rc n) a2 a3 a4 h := (rfl)
set_option maxRecDepth 1000000 in
theorem E_Walk_visit_46 (N : Nat) (rc : (Int32 → Int32 → Int32 → MH → Option (MH))) (n : Nat) (a2 : Int32) (a4 : Int32) (a5 : Int32) (h : MH) : seg (C_Walk_visit N rc) 8 0 rV T_Walk_visit [0, 46, 105, 126] (fun q lv st h => match Nat.ble 47 q with
    | true => D_Walk_visit N rc n q lv st h
    | false => B_Walk_visit N rc n q lv st h) 400 true 46 [(0, .inr (.inr (0, 10, 42))), (1, .inr (.inr (0, 0, 33))), (2, .inl a2), (4, .inl a4), (5, .inl a5)] [] h = F_Walk_visit_46 N rc (L_Walk_visit N rc n) a2 a4 a5 h := (rfl)
set_option maxRecDepth 1000000 in
theorem E_Walk_visit_105 (N : Nat) (rc : (Int32 → Int32 → Int32 → MH → Option (MH))) (n : Nat) (a2 : Int32) (a4 : Int32) (a5 : Int32) (a6 : Int32) (a7 : Int32) (h : MH) : seg (C_Walk_visit N rc) 8 0 rV T_Walk_visit [0, 46, 105, 126] (fun q lv st h => match Nat.ble 106 q with
    | true => D_Walk_visit N rc n q lv st h
    | false => B_Walk_visit N rc n q lv st h) 400 true 105 [(0, .inr (.inr (0, 10, 42))), (1, .inr (.inr (0, 0, 33))), (2, .inl a2), (4, .inl a4), (5, .inl a5), (6, .inl a6), (7, .inl a7)] [] h = F_Walk_visit_105 N rc (L_Walk_visit N rc n) a2 a4 a5 a6 a7 h := (rfl)
set_option maxRecDepth 1000000 in
theorem E_Walk_visit_126 (N : Nat) (rc : (Int32 → Int32 → Int32 → MH → Option (MH))) (n : Nat) (a2 : Int32) (a4 : Int32) (a5 : Int32) (a6 : Int32) (a7 : Int32) (h : MH) : seg (C_Walk_visit N rc) 8 0 rV T_Walk_visit [0, 46, 105, 126] (fun q lv st h => match Nat.ble 127 q with
    | true => D_Walk_visit N rc n q lv st h
    | false => B_Walk_visit N rc n q lv st h) 400 true 126 [(0, .inr (.inr (0, 10, 42))), (1, .inr (.inr (0, 0, 33))), (2, .inl a2), (4, .inl a4), (5, .inl a5), (6, .inl a6), (7, .inl a7)] [] h = F_Walk_visit_126 N rc (L_Walk_visit N rc n) a2 a4 a5 a6 a7 h := (rfl)
set_option maxRecDepth 1000000 in
theorem chk_Walk_visit : chkT 10 false prog_12_method_5_code T_Walk_visit = true := by decide +kernel
theorem mc_Walk_visit : mC 95 = prog_12_method_5_code := by rfl
theorem mx_Walk_visit : mL 95 = 8 ∧ mR 95 = none ∧ mK 95 = 1 ∧ (mN 95).cls = cN 10 := by decide +kernel
theorem hD_Walk_visit (N : Nat) (rc : (Int32 → Int32 → Int32 → MH → Option (MH))) {r : MH} : ∀ n pc lv st h, D_Walk_visit N rc n pc lv st h = some r → ∃ lv', (∀ q ∈ lv', q ∈ lv) ∧ seg (C_Walk_visit N rc) 8 0 rV T_Walk_visit [0, 46, 105, 126] (fun q lv st h => match Nat.ble (pc + 1) q with
    | true => D_Walk_visit N rc n q lv st h
    | false => B_Walk_visit N rc n q lv st h) 400 true pc lv' st h = some r := by
  intro n pc lv st h hf
  unfold D_Walk_visit at hf
  split at hf
  · rename_i hb
    have hb := Nat.eq_of_beq_eq_true hb
    subst hb
    split at hf
    · rename_i y0 y1 y2 e0 e1 e2 e3 e4
      exact ⟨_, (sub_cons e0 (sub_cons e1 (sub_cons e2 (sub_cons e3 (sub_cons e4 sub_nil))))), (E_Walk_visit_0 N rc n _ _ _ h).trans hf⟩
    · cases hf
  · skip
    split at hf
    · rename_i hb
      have hb := Nat.eq_of_beq_eq_true hb
      subst hb
      split at hf
      · rename_i y0 y1 y2 e0 e1 e2 e3 e4
        exact ⟨_, (sub_cons e0 (sub_cons e1 (sub_cons e2 (sub_cons e3 (sub_cons e4 sub_nil))))), (E_Walk_visit_46 N rc n _ _ _ h).trans hf⟩
      · cases hf
    · skip
      split at hf
      · rename_i hb
        have hb := Nat.eq_of_beq_eq_true hb
        subst hb
        split at hf
        · rename_i y0 y1 y2 y3 y4 e0 e1 e2 e3 e4 e5 e6
          exact ⟨_, (sub_cons e0 (sub_cons e1 (sub_cons e2 (sub_cons e3 (sub_cons e4 (sub_cons e5 (sub_cons e6 sub_nil))))))), (E_Walk_visit_105 N rc n _ _ _ _ _ h).trans hf⟩
        · cases hf
      · skip
        split at hf
        · rename_i hb
          have hb := Nat.eq_of_beq_eq_true hb
          subst hb
          split at hf
          · rename_i y0 y1 y2 y3 y4 e0 e1 e2 e3 e4 e5 e6
            exact ⟨_, (sub_cons e0 (sub_cons e1 (sub_cons e2 (sub_cons e3 (sub_cons e4 (sub_cons e5 (sub_cons e6 sub_nil))))))), (E_Walk_visit_126 N rc n _ _ _ _ _ h).trans hf⟩
          · cases hf
        · skip
          cases hf
theorem hM_Walk_visit (N : Nat) (rc : (Int32 → Int32 → Int32 → MH → Option (MH))) {r : MH} : ∀ n pc lv st h, D_Walk_visit N rc n pc lv st h = some r → pc < 164 := by
  intro n pc lv st h hf
  unfold D_Walk_visit at hf
  split at hf
  · rename_i hb
    rw [Nat.eq_of_beq_eq_true hb]
    decide
  · skip
    split at hf
    · rename_i hb
      rw [Nat.eq_of_beq_eq_true hb]
      decide
    · skip
      split at hf
      · rename_i hb
        rw [Nat.eq_of_beq_eq_true hb]
        decide
      · skip
        split at hf
        · rename_i hb
          rw [Nat.eq_of_beq_eq_true hb]
          decide
        · skip
          cases hf
theorem hB_Walk_visit (N : Nat) (rc : (Int32 → Int32 → Int32 → MH → Option (MH))) {r : MH} : ∀ n pc lv st h, B_Walk_visit N rc n pc lv st h = some r → ∃ k, n = k + 1 ∧ D_Walk_visit N rc k pc lv st h = some r := by
  intro n pc lv st h hf
  unfold B_Walk_visit at hf
  split at hf
  · rename_i hb
    have hb := Nat.eq_of_beq_eq_true hb
    subst hb
    cases n with
    | zero =>
      split at hf
      · cases hf
      · cases hf
    | succ k =>
      refine ⟨k, rfl, ?_⟩
      exact hf
  · skip
    cases hf
theorem sg_Walk_visit {l : Launch} {E : EV} {N : Nat} {rc : (Int32 → Int32 → Int32 → MH → Option (MH))} {dp d0 : Nat} (hc : 3 ≤ dp) (h0 : d0 + 1 ≤ dp) (q0 : ∀ as h r, w_Walk_visit (rc) as h = some r → SndM l E false d0 95 as h none r) {as : List MV} {h : MH} {r : MH} (hf : w_Walk_visit (g_Walk_visit N rc) as h = some r) : SndM l E false dp 95 as h none r := by
  unfold w_Walk_visit at hf
  split at hf
  · obtain ⟨m1, m2, m3, m4⟩ := mx_Walk_visit
    refine snd_of (C := C_Walk_visit N rc) (own := 10) (rz := 0) (lim := 115) rV_eq m2 m4 pl_95 (TB_in _ cw_95 rfl) ⟨(fun _ => ⟨_, _, _, _, _, _, rfl, rfl, by rw [m4]; rfl⟩), (fun z => by rw [m3] at z; cases z)⟩ (fun z => by cases z) KDL_take rfl rfl (fun z => by cases z) (fun z => by cases z) (fun _ => rfl) (by rw [m1]; exact Nat.le_of_ble_eq_true rfl)
      (fun j as h x z => by
      dsimp only [C_Walk_visit] at z
      cases hb : Nat.beq j 6 with
      | true =>
        have hb := Nat.eq_of_beq_eq_true hb
        subst hb
        exact ⟨0, by omega, (fun z => by cases z), s_Asked_stillOpen z⟩
      | false =>
        rw [hb] at z
        dsimp only at z
        cases hb : Nat.beq j 96 with
        | true =>
          have hb := Nat.eq_of_beq_eq_true hb
          subst hb
          exact ⟨0, by omega, (fun z => by cases z), s_Walk_isLoose z⟩
        | false =>
          rw [hb] at z
          dsimp only at z
          cases z)
      (fun _ _ _ _ z => by cases z)
      (fun _ _ _ _ z => by cases z)
      (fun j as h x z => by
      dsimp only [C_Walk_visit] at z
      cases hb : Nat.beq j 3 with
      | true =>
        have hb := Nat.eq_of_beq_eq_true hb
        subst hb
        exact ⟨0, by omega, (fun z => by cases z), s_Asked_put z⟩
      | false =>
        rw [hb] at z
        dsimp only at z
        cases hb : Nat.beq j 95 with
        | true =>
          have hb := Nat.eq_of_beq_eq_true hb
          subst hb
          exact ⟨_, h0, (fun z => by cases z), q0 _ _ _ z⟩
        | false =>
          rw [hb] at z
          dsimp only at z
          cases hb : Nat.beq j 97 with
          | true =>
            have hb := Nat.eq_of_beq_eq_true hb
            subst hb
            exact ⟨2, by omega, (fun z => by cases z), s_Walk_narrow z⟩
          | false =>
            rw [hb] at z
            dsimp only at z
            cases hb : Nat.beq j 99 with
            | true =>
              have hb := Nat.eq_of_beq_eq_true hb
              subst hb
              exact ⟨2, by omega, (fun z => by cases z), s_Walk_takeLast z⟩
            | false =>
              rw [hb] at z
              dsimp only at z
              cases hb : Nat.beq j 100 with
              | true =>
                have hb := Nat.eq_of_beq_eq_true hb
                subst hb
                exact ⟨2, by omega, (fun z => by cases z), s_Walk_takeAnyFrom z⟩
              | false =>
                rw [hb] at z
                dsimp only at z
                cases z)
      (fun p e R s m args below meth c Q n0 F hret => ?_)
    rw [m1] at F hret ⊢
    rw [mc_Walk_visit] at F hret
    exact cuts_s (K := 400) (M := 164) (D := D_Walk_visit N rc) (B := B_Walk_visit N rc) F hret (chkT_ok chk_Walk_visit) (hM_Walk_visit N rc) (hB_Walk_visit N rc) (hD_Walk_visit N rc) N 0 _ _ _ hf
  · cases hf
theorem s_Walk_visit {l : Launch} {E : EV} {N : Nat} : ∀ (d : Nat) {as : List MV} {h : MH} {r : MH}, w_Walk_visit (f_Walk_visit N d) as h = some r → SndM l E false (3 + d) 95 as h none r
  | 0, as, h, r, hf => by
    unfold w_Walk_visit at hf
    split at hf
    · cases hf
    · cases hf
  | d + 1, as, h, r, hf => sg_Walk_visit (dp := 3 + (d + 1)) (d0 := 3 + d) (by omega) (by omega) (fun as h r z => s_Walk_visit d z) hf
def T_Walk_all : List (List (Option RW)) := [
  [some (.aload_n 0, 1, [0], 0, 0), some (.iload_n 2, 1, [2], 0, 0), some (.iload_n 3, 1, [3], 0, 0), some (.iload 4, 2, [4], 0, 0), none, some (.invokevirtual 63, 3, [0, 94, 4, 3], 0, 0), none, none, some (.aload_n 0, 1, [0], 0, 0), some (.iconst 0, 1, [], 0, 0), some (.putfield 21, 3, [10, 3, 0, 1], 0, 0), none, none, some (.aload_n 0, 1, [0], 0, 0), some (.aload_n 1, 1, [1], 0, 0), some (.iconst 0, 1, [], 0, 0), some (.aload_n 1, 1, [1], 0, 0), some (.getfield 67, 3, [0, 2, 0], 0, 0), none, none, some (.iconst 0, 1, [], 0, 0), some (.invokevirtual 72, 3, [0, 95, 5, 3], 0, 0), none, none, some (.return_, 1, [], 0, 0)]]
def f_Walk_all (N : Nat) (a2 : Int32) (a3 : Int32) (a4 : Int32) (h : MH) : Option (MH) :=
  (f_Walk_begin N a2 a3 a4 h).bind (fun x1 =>
  let h2 : MH := sI x1 42 3 0
  (f_Walk_visit N 8 0 (gI h2 33 2) 0 h2).bind (fun x3 =>
  some x3))
def C_Walk_all (N : Nat) : MC := (KDL, false, (fun _ => 0), jsB, (fun _ _ _ => none), (fun _ _ _ => none), (fun _ _ _ => none), (fun j => match Nat.beq j 94 with
    | true => w_Walk_begin (f_Walk_begin N)
    | false => match Nat.beq j 95 with
    | true => w_Walk_visit (f_Walk_visit N 8)
    | false => fun _ _ => none))
def D_Walk_all (N : Nat) (n pc : Nat) (lv : ML) (st : List MV) (h : MH) : Option (MH) :=
  match Nat.beq pc 0 with
  | true => (match lk lv 0, lk lv 1, lk lv 2, lk lv 3, lk lv 4, st with
    | some (.inr (.inr (0, 10, 42))), some (.inr (.inr (0, 0, 33))), some (.inl a2), some (.inl a3), some (.inl a4), [] => f_Walk_all N a2 a3 a4 h
    | _, _, _, _, _, _ => none)
  | false => none
set_option maxRecDepth 1000000 in
theorem E_Walk_all_0 (N : Nat) (n : Nat) (a2 : Int32) (a3 : Int32) (a4 : Int32) (h : MH) : seg (C_Walk_all N) 5 0 rV T_Walk_all [0] (fun q lv st h => match Nat.ble 1 q with
    | true => D_Walk_all N n q lv st h
    | false => none) 400 true 0 [(0, .inr (.inr (0, 10, 42))), (1, .inr (.inr (0, 0, 33))), (2, .inl a2), (3, .inl a3), (4, .inl a4)] [] h = f_Walk_all N a2 a3 a4 h := (rfl)
set_option maxRecDepth 1000000 in
theorem chk_Walk_all : chkT 10 false prog_12_method_2_code T_Walk_all = true := by decide +kernel
theorem mc_Walk_all : mC 92 = prog_12_method_2_code := by rfl
theorem mx_Walk_all : mL 92 = 5 ∧ mR 92 = none ∧ mK 92 = 1 ∧ (mN 92).cls = cN 10 := by decide +kernel
theorem hD_Walk_all (N : Nat) {r : MH} : ∀ n pc lv st h, D_Walk_all N n pc lv st h = some r → ∃ lv', (∀ q ∈ lv', q ∈ lv) ∧ seg (C_Walk_all N) 5 0 rV T_Walk_all [0] (fun q lv st h => match Nat.ble (pc + 1) q with
    | true => D_Walk_all N n q lv st h
    | false => none) 400 true pc lv' st h = some r := by
  intro n pc lv st h hf
  unfold D_Walk_all at hf
  split at hf
  · rename_i hb
    have hb := Nat.eq_of_beq_eq_true hb
    subst hb
    split at hf
    · rename_i y0 y1 y2 e0 e1 e2 e3 e4
      exact ⟨_, (sub_cons e0 (sub_cons e1 (sub_cons e2 (sub_cons e3 (sub_cons e4 sub_nil))))), (E_Walk_all_0 N n _ _ _ h).trans hf⟩
    · cases hf
  · skip
    cases hf
theorem hM_Walk_all (N : Nat) {r : MH} : ∀ n pc lv st h, D_Walk_all N n pc lv st h = some r → pc < 25 := by
  intro n pc lv st h hf
  unfold D_Walk_all at hf
  split at hf
  · rename_i hb
    rw [Nat.eq_of_beq_eq_true hb]
    decide
  · skip
    cases hf
theorem s_Walk_all {l : Launch} {E : EV} {N : Nat} {as : List MV} {h : MH} {r : MH} (hf : w_Walk_all (f_Walk_all N) as h = some r) : SndM l E false 12 92 as h none r := by
  unfold w_Walk_all at hf
  split at hf
  · obtain ⟨m1, m2, m3, m4⟩ := mx_Walk_all
    refine snd_of (C := C_Walk_all N) (own := 10) (rz := 0) (lim := 115) rV_eq m2 m4 pl_92 (TB_in _ cw_92 rfl) ⟨(fun _ => ⟨_, _, _, _, _, _, rfl, rfl, by rw [m4]; rfl⟩), (fun z => by rw [m3] at z; cases z)⟩ (fun z => by cases z) KDL_take rfl rfl (fun z => by cases z) (fun z => by cases z) (fun _ => rfl) (by rw [m1]; exact Nat.le_of_ble_eq_true rfl)
      (fun _ _ _ _ z => by cases z)
      (fun _ _ _ _ z => by cases z)
      (fun _ _ _ _ z => by cases z)
      (fun j as h x z => by
      dsimp only [C_Walk_all] at z
      cases hb : Nat.beq j 94 with
      | true =>
        have hb := Nat.eq_of_beq_eq_true hb
        subst hb
        exact ⟨0, by decide, (fun z => by cases z), s_Walk_begin z⟩
      | false =>
        rw [hb] at z
        dsimp only at z
        cases hb : Nat.beq j 95 with
        | true =>
          have hb := Nat.eq_of_beq_eq_true hb
          subst hb
          exact ⟨11, by decide, (fun z => by cases z), s_Walk_visit 8 z⟩
        | false =>
          rw [hb] at z
          dsimp only at z
          cases z)
      (fun p e R s m args below meth c Q n0 F hret => ?_)
    rw [m1] at F hret ⊢
    rw [mc_Walk_all] at F hret
    exact cuts_s (K := 400) (M := 25) (D := D_Walk_all N) (B := fun _ _ _ _ _ => none) F hret (chkT_ok chk_Walk_all) (hM_Walk_all N) (fun _ _ _ _ _ z => by cases z) (hD_Walk_all N) N 0 _ _ _ hf
  · cases hf
def T_Walk_finds : List (List (Option RW)) := [
  [some (.aload_n 0, 1, [0], 0, 0), some (.iload_n 3, 1, [3], 0, 0), some (.iconst 0, 1, [], 0, 0), some (.iconst 0, 1, [], 0, 0), some (.invokevirtual 63, 3, [0, 94, 4, 3], 0, 0), none, none, some (.aload_n 0, 1, [0], 0, 0), some (.iconst 1, 1, [], 1, 0), some (.putfield 21, 3, [10, 3, 0, 1], 0, 0), none, none, some (.aload_n 0, 1, [0], 0, 0), some (.aload_n 1, 1, [1], 0, 0), some (.iconst 0, 1, [], 0, 0), some (.iload_n 2, 1, [2], 0, 0), some (.iconst 0, 1, [], 0, 0), some (.invokevirtual 72, 3, [0, 95, 5, 3], 0, 0), none, none, some (.aload_n 0, 1, [0], 0, 0), some (.getfield 25, 3, [10, 4, 0], 0, 0), none, none, some (.ifCond .le 7, 3, [31], 0, 0), none, none, some (.iconst 1, 1, [], 1, 0), some (.goto 4, 3, [32], 0, 0), none, none, some (.iconst 0, 1, [], 0, 0)],
  [some (.ireturn, 1, [], 0, 0)]]
def f_Walk_finds (N : Nat) (a2 : Int32) (a3 : Int32) (h : MH) : Option (Int32 × MH) :=
  (f_Walk_begin N a3 0 0 h).bind (fun x1 =>
  let h2 : MH := sI x1 42 3 1
  (f_Walk_visit N 8 0 a2 0 h2).bind (fun x3 =>
  if (gI x3 42 4) ≤ 0 then
  (some (0, x3))
  else
  (some (1, x3))))
def C_Walk_finds (N : Nat) : MC := (KDL, false, (fun _ => 0), jsB, (fun _ _ _ => none), (fun _ _ _ => none), (fun _ _ _ => none), (fun j => match Nat.beq j 94 with
    | true => w_Walk_begin (f_Walk_begin N)
    | false => match Nat.beq j 95 with
    | true => w_Walk_visit (f_Walk_visit N 8)
    | false => fun _ _ => none))
def D_Walk_finds (N : Nat) (n pc : Nat) (lv : ML) (st : List MV) (h : MH) : Option (Int32 × MH) :=
  match Nat.beq pc 0 with
  | true => (match lk lv 0, lk lv 1, lk lv 2, lk lv 3, st with
    | some (.inr (.inr (0, 10, 42))), some (.inr (.inr (0, 0, 33))), some (.inl a2), some (.inl a3), [] => f_Walk_finds N a2 a3 h
    | _, _, _, _, _ => none)
  | false => none
set_option maxRecDepth 1000000 in
theorem E_Walk_finds_0 (N : Nat) (n : Nat) (a2 : Int32) (a3 : Int32) (h : MH) : seg (C_Walk_finds N) 4 1 rI T_Walk_finds [0] (fun q lv st h => match Nat.ble 1 q with
    | true => D_Walk_finds N n q lv st h
    | false => none) 400 true 0 [(0, .inr (.inr (0, 10, 42))), (1, .inr (.inr (0, 0, 33))), (2, .inl a2), (3, .inl a3)] [] h = f_Walk_finds N a2 a3 h := (rfl)
set_option maxRecDepth 1000000 in
theorem chk_Walk_finds : chkT 10 false prog_12_method_3_code T_Walk_finds = true := by decide +kernel
theorem mc_Walk_finds : mC 93 = prog_12_method_3_code := by rfl
theorem mx_Walk_finds : mL 93 = 4 ∧ mR 93 = some .boolean ∧ mK 93 = 1 ∧ (mN 93).cls = cN 10 := by decide +kernel
theorem hD_Walk_finds (N : Nat) {r : Int32 × MH} : ∀ n pc lv st h, D_Walk_finds N n pc lv st h = some r → ∃ lv', (∀ q ∈ lv', q ∈ lv) ∧ seg (C_Walk_finds N) 4 1 rI T_Walk_finds [0] (fun q lv st h => match Nat.ble (pc + 1) q with
    | true => D_Walk_finds N n q lv st h
    | false => none) 400 true pc lv' st h = some r := by
  intro n pc lv st h hf
  unfold D_Walk_finds at hf
  split at hf
  · rename_i hb
    have hb := Nat.eq_of_beq_eq_true hb
    subst hb
    split at hf
    · rename_i y0 y1 e0 e1 e2 e3
      exact ⟨_, (sub_cons e0 (sub_cons e1 (sub_cons e2 (sub_cons e3 sub_nil)))), (E_Walk_finds_0 N n _ _ h).trans hf⟩
    · cases hf
  · skip
    cases hf
theorem hM_Walk_finds (N : Nat) {r : Int32 × MH} : ∀ n pc lv st h, D_Walk_finds N n pc lv st h = some r → pc < 33 := by
  intro n pc lv st h hf
  unfold D_Walk_finds at hf
  split at hf
  · rename_i hb
    rw [Nat.eq_of_beq_eq_true hb]
    decide
  · skip
    cases hf
theorem s_Walk_finds {l : Launch} {E : EV} {N : Nat} {as : List MV} {h : MH} {r : Int32 × MH} (hf : w_Walk_finds (f_Walk_finds N) as h = some r) : SndM l E false 12 93 as h (some (.inl r.1)) r.2 := by
  unfold w_Walk_finds at hf
  split at hf
  · obtain ⟨m1, m2, m3, m4⟩ := mx_Walk_finds
    refine snd_of (C := C_Walk_finds N) (own := 10) (rz := 1) (lim := 115) rI_eq m2 m4 pl_93 (TB_in _ cw_93 rfl) ⟨(fun _ => ⟨_, _, _, _, _, _, rfl, rfl, by rw [m4]; rfl⟩), (fun z => by rw [m3] at z; cases z)⟩ (fun z => by cases z) KDL_take rfl rfl (fun z => by cases z) (fun z => by cases z) (fun _ => rfl) (by rw [m1]; exact Nat.le_of_ble_eq_true rfl)
      (fun _ _ _ _ z => by cases z)
      (fun _ _ _ _ z => by cases z)
      (fun _ _ _ _ z => by cases z)
      (fun j as h x z => by
      dsimp only [C_Walk_finds] at z
      cases hb : Nat.beq j 94 with
      | true =>
        have hb := Nat.eq_of_beq_eq_true hb
        subst hb
        exact ⟨0, by decide, (fun z => by cases z), s_Walk_begin z⟩
      | false =>
        rw [hb] at z
        dsimp only at z
        cases hb : Nat.beq j 95 with
        | true =>
          have hb := Nat.eq_of_beq_eq_true hb
          subst hb
          exact ⟨11, by decide, (fun z => by cases z), s_Walk_visit 8 z⟩
        | false =>
          rw [hb] at z
          dsimp only at z
          cases z)
      (fun p e R s m args below meth c Q n0 F hret => ?_)
    rw [m1] at F hret ⊢
    rw [mc_Walk_finds] at F hret
    exact cuts_s (K := 400) (M := 33) (D := D_Walk_finds N) (B := fun _ _ _ _ _ => none) F hret (chkT_ok chk_Walk_finds) (hM_Walk_finds N) (fun _ _ _ _ _ z => by cases z) (hD_Walk_finds N) N 0 _ _ _ hf
  · cases hf
def T_Walk_noteUnmet : List (List (Option RW)) := [
  [some (.iload_n 1, 1, [1], 0, 0), some (.invokestatic 153, 3, [2, 255, 1, 0], 0, 0), none, none, some (.istore_n 2, 1, [2], 0, 0), some (.iload_n 2, 1, [2], 0, 0), some (.aload_n 0, 1, [0], 0, 0), some (.getfield 54, 3, [10, 13, 0], 0, 0), none, none, some (.if_icmp .ge 18, 3, [28], 0, 0), none, none, some (.aload_n 0, 1, [0], 0, 0), some (.iload_n 2, 1, [2], 0, 0), some (.putfield 54, 3, [10, 13, 0], 0, 0), none, none, some (.aload_n 0, 1, [0], 0, 0), some (.iload_n 1, 1, [1], 0, 0), some (.putfield 57, 3, [10, 14, 0], 0, 0), none, none, some (.aload_n 0, 1, [0], 0, 0), some (.iconst 0, 1, [], 0, 0), some (.putfield 60, 3, [10, 15, 0], 0, 0), none, none, some (.iload_n 2, 1, [2], 0, 0), some (.aload_n 0, 1, [0], 0, 0), some (.getfield 54, 3, [10, 13, 0], 0, 0), none],
  [none, some (.if_icmp .ne 13, 3, [46], 0, 0), none, none, some (.aload_n 0, 1, [0], 0, 0), some (.dup, 1, [], 0, 0), some (.getfield 60, 3, [10, 15, 0], 0, 0), none, none, some (.iconst 1, 1, [], 1, 0), some (.iadd, 1, [], 0, 0), some (.putfield 60, 3, [10, 15, 0], 0, 0), none, none, some (.return_, 1, [], 0, 0)]]
def F_Walk_noteUnmet_28 (N : Nat) (a2 : Int32) (h : MH) : Option (MH) :=
  if a2 = (gI h 42 13) then
  (let h5 : MH := sI h 42 15 ((gI h 42 15) + 1)
  some h5)
  else
  (some h)
def f_Walk_noteUnmet (N : Nat) (a1 : Int32) (h : MH) : Option (MH) :=
  (f_Integer_bitCount N a1 h).bind (fun x1 =>
  if (gI x1.2 42 13) ≤ x1.1 then
  (F_Walk_noteUnmet_28 N x1.1 x1.2)
  else
  (let h2 : MH := sI x1.2 42 13 x1.1
  let h3 : MH := sI h2 42 14 a1
  let h4 : MH := sI h3 42 15 0
  F_Walk_noteUnmet_28 N x1.1 h4))
def C_Walk_noteUnmet (N : Nat) : MC := (KDL, false, (fun _ => 0), jsB, (fun j => match Nat.beq j 255 with
    | true => w_Integer_bitCount (f_Integer_bitCount N)
    | false => fun _ _ => none), (fun _ _ _ => none), (fun _ _ _ => none), (fun _ _ _ => none))
def D_Walk_noteUnmet (N : Nat) (n pc : Nat) (lv : ML) (st : List MV) (h : MH) : Option (MH) :=
  match Nat.beq pc 0 with
  | true => (match lk lv 0, lk lv 1, st with
    | some (.inr (.inr (0, 10, 42))), some (.inl a1), [] => f_Walk_noteUnmet N a1 h
    | _, _, _ => none)
  | false => match Nat.beq pc 28 with
  | true => (match lk lv 0, lk lv 2, st with
    | some (.inr (.inr (0, 10, 42))), some (.inl a2), [] => F_Walk_noteUnmet_28 N a2 h
    | _, _, _ => none)
  | false => none
set_option maxRecDepth 1000000 in
theorem E_Walk_noteUnmet_0 (N : Nat) (n : Nat) (a1 : Int32) (h : MH) : seg (C_Walk_noteUnmet N) 3 0 rV T_Walk_noteUnmet [0, 28] (fun q lv st h => match Nat.ble 1 q with
    | true => D_Walk_noteUnmet N n q lv st h
    | false => none) 400 true 0 [(0, .inr (.inr (0, 10, 42))), (1, .inl a1)] [] h = f_Walk_noteUnmet N a1 h := (rfl)
set_option maxRecDepth 1000000 in
theorem E_Walk_noteUnmet_28 (N : Nat) (n : Nat) (a2 : Int32) (h : MH) : seg (C_Walk_noteUnmet N) 3 0 rV T_Walk_noteUnmet [0, 28] (fun q lv st h => match Nat.ble 29 q with
    | true => D_Walk_noteUnmet N n q lv st h
    | false => none) 400 true 28 [(0, .inr (.inr (0, 10, 42))), (2, .inl a2)] [] h = F_Walk_noteUnmet_28 N a2 h := (rfl)
set_option maxRecDepth 1000000 in
theorem chk_Walk_noteUnmet : chkT 10 false prog_12_method_15_code T_Walk_noteUnmet = true := by decide +kernel
theorem mc_Walk_noteUnmet : mC 105 = prog_12_method_15_code := by rfl
theorem mx_Walk_noteUnmet : mL 105 = 3 ∧ mR 105 = none ∧ mK 105 = 1 ∧ (mN 105).cls = cN 10 := by decide +kernel
theorem hD_Walk_noteUnmet (N : Nat) {r : MH} : ∀ n pc lv st h, D_Walk_noteUnmet N n pc lv st h = some r → ∃ lv', (∀ q ∈ lv', q ∈ lv) ∧ seg (C_Walk_noteUnmet N) 3 0 rV T_Walk_noteUnmet [0, 28] (fun q lv st h => match Nat.ble (pc + 1) q with
    | true => D_Walk_noteUnmet N n q lv st h
    | false => none) 400 true pc lv' st h = some r := by
  intro n pc lv st h hf
  unfold D_Walk_noteUnmet at hf
  split at hf
  · rename_i hb
    have hb := Nat.eq_of_beq_eq_true hb
    subst hb
    split at hf
    · rename_i y0 e0 e1
      exact ⟨_, (sub_cons e0 (sub_cons e1 sub_nil)), (E_Walk_noteUnmet_0 N n _ h).trans hf⟩
    · cases hf
  · skip
    split at hf
    · rename_i hb
      have hb := Nat.eq_of_beq_eq_true hb
      subst hb
      split at hf
      · rename_i y0 e0 e1
        exact ⟨_, (sub_cons e0 (sub_cons e1 sub_nil)), (E_Walk_noteUnmet_28 N n _ h).trans hf⟩
      · cases hf
    · skip
      cases hf
theorem hM_Walk_noteUnmet (N : Nat) {r : MH} : ∀ n pc lv st h, D_Walk_noteUnmet N n pc lv st h = some r → pc < 47 := by
  intro n pc lv st h hf
  unfold D_Walk_noteUnmet at hf
  split at hf
  · rename_i hb
    rw [Nat.eq_of_beq_eq_true hb]
    decide
  · skip
    split at hf
    · rename_i hb
      rw [Nat.eq_of_beq_eq_true hb]
      decide
    · skip
      cases hf
theorem s_Walk_noteUnmet {l : Launch} {E : EV} {N : Nat} {as : List MV} {h : MH} {r : MH} (hf : w_Walk_noteUnmet (f_Walk_noteUnmet N) as h = some r) : SndM l E false 1 105 as h none r := by
  unfold w_Walk_noteUnmet at hf
  split at hf
  · obtain ⟨m1, m2, m3, m4⟩ := mx_Walk_noteUnmet
    refine snd_of (C := C_Walk_noteUnmet N) (own := 10) (rz := 0) (lim := 115) rV_eq m2 m4 pl_105 (TB_in _ cw_105 rfl) ⟨(fun _ => ⟨_, _, _, _, _, _, rfl, rfl, by rw [m4]; rfl⟩), (fun z => by rw [m3] at z; cases z)⟩ (fun z => by cases z) KDL_take rfl rfl (fun z => by cases z) (fun z => by cases z) (fun _ => rfl) (by rw [m1]; exact Nat.le_of_ble_eq_true rfl)
      (fun j as h x z => by
      dsimp only [C_Walk_noteUnmet] at z
      cases hb : Nat.beq j 255 with
      | true =>
        have hb := Nat.eq_of_beq_eq_true hb
        subst hb
        exact ⟨0, by decide, (fun z => by cases z), s_Integer_bitCount z⟩
      | false =>
        rw [hb] at z
        dsimp only at z
        cases z)
      (fun _ _ _ _ z => by cases z)
      (fun _ _ _ _ z => by cases z)
      (fun _ _ _ _ z => by cases z)
      (fun p e R s m args below meth c Q n0 F hret => ?_)
    rw [m1] at F hret ⊢
    rw [mc_Walk_noteUnmet] at F hret
    exact cuts_s (K := 400) (M := 47) (D := D_Walk_noteUnmet N) (B := fun _ _ _ _ _ => none) F hret (chkT_ok chk_Walk_noteUnmet) (hM_Walk_noteUnmet N) (fun _ _ _ _ _ z => by cases z) (hD_Walk_noteUnmet N) N 0 _ _ _ hf
  · cases hf
def T_Walk_noteMet : List (List (Option RW)) := [
  [some (.iconst 0, 1, [], 0, 0), some (.istore_n 2, 1, [2], 0, 0), some (.iload_n 2, 1, [2], 0, 0), some (.sipush 256, 3, [], 256, 0), none, none, some (.if_icmp .ge 24, 3, [30], 0, 0), none, none, some (.iload_n 2, 1, [2], 0, 0), some (.iload_n 1, 1, [1], 0, 0), some (.iconst (-1), 1, [], (-1), 0), some (.ixor, 1, [], 0, 0), some (.iand, 1, [], 0, 0), some (.ifCond .ne 10, 3, [24], 0, 0), none, none, some (.aload_n 0, 1, [0], 0, 0), some (.getfield 50, 3, [10, 12, 2, 4, 256, 5], 0, 0), none, none, some (.iload_n 2, 1, [2], 0, 0), some (.iconst 1, 1, [], 1, 0), some (.bastore, 1, [], 0, 0), some (.iinc 2 1, 3, [2], 1, 0), none, none, some (.goto (-25), 3, [2], 0, 0), none, none, some (.return_, 1, [], 0, 0)]]
def F_Walk_noteMet_2 (N : Nat) (bk : (Int32 → Int32 → MH → Option (MH))) (a1 : Int32) (a2 : Int32) (h : MH) : Option (MH) :=
  if 256 ≤ a2 then
  (some h)
  else
  (if (a2 &&& (a1 ^^^ ((-1)))) = 0 then
  (if inB a2 256 = true then
  (let h1 : MH := sI h 47 (iN a2) ((1 : Int32) &&& 1)
  let v2 : Int32 := a2 + 1
  bk a1 v2 h1)
  else none)
  else
  (let v3 : Int32 := a2 + 1
  bk a1 v3 h))
def F_Walk_noteMet_0 (N : Nat) (bk : (Int32 → Int32 → MH → Option (MH))) (a1 : Int32) (h : MH) : Option (MH) :=
  F_Walk_noteMet_2 N bk a1 0 h
def L_Walk_noteMet (N : Nat) : Nat → (Int32 → Int32 → MH → Option (MH))
  | 0 => fun _ _ _ => none
  | n + 1 => F_Walk_noteMet_2 N (L_Walk_noteMet N n)
def f_Walk_noteMet (N : Nat) (a1 : Int32) (h : MH) : Option (MH) := F_Walk_noteMet_0 N (L_Walk_noteMet N N) a1 h
def C_Walk_noteMet (N : Nat) : MC := (KDL, false, (fun _ => 0), jsB, (fun _ _ _ => none), (fun _ _ _ => none), (fun _ _ _ => none), (fun _ _ _ => none))
def D_Walk_noteMet (N : Nat) (n pc : Nat) (lv : ML) (st : List MV) (h : MH) : Option (MH) :=
  match Nat.beq pc 0 with
  | true => (match lk lv 0, lk lv 1, st with
    | some (.inr (.inr (0, 10, 42))), some (.inl a1), [] => F_Walk_noteMet_0 N (L_Walk_noteMet N n) a1 h
    | _, _, _ => none)
  | false => match Nat.beq pc 2 with
  | true => (match lk lv 0, lk lv 1, lk lv 2, st with
    | some (.inr (.inr (0, 10, 42))), some (.inl a1), some (.inl a2), [] => F_Walk_noteMet_2 N (L_Walk_noteMet N n) a1 a2 h
    | _, _, _, _ => none)
  | false => none
def B_Walk_noteMet (N : Nat) (n pc : Nat) (lv : ML) (st : List MV) (h : MH) : Option (MH) :=
  match Nat.beq pc 2 with
  | true => (match lk lv 0, lk lv 1, lk lv 2, st with
    | some (.inr (.inr (0, 10, 42))), some (.inl a1), some (.inl a2), [] => ((L_Walk_noteMet N n)) a1 a2 h
    | _, _, _, _ => none)
  | false => none
set_option maxRecDepth 1000000 in
theorem E_Walk_noteMet_0 (N : Nat) (n : Nat) (a1 : Int32) (h : MH) : seg (C_Walk_noteMet N) 3 0 rV T_Walk_noteMet [0, 2] (fun q lv st h => match Nat.ble 1 q with
    | true => D_Walk_noteMet N n q lv st h
    | false => B_Walk_noteMet N n q lv st h) 400 true 0 [(0, .inr (.inr (0, 10, 42))), (1, .inl a1)] [] h = F_Walk_noteMet_0 N (L_Walk_noteMet N n) a1 h := (rfl)
set_option maxRecDepth 1000000 in
theorem E_Walk_noteMet_2 (N : Nat) (n : Nat) (a1 : Int32) (a2 : Int32) (h : MH) : seg (C_Walk_noteMet N) 3 0 rV T_Walk_noteMet [0, 2] (fun q lv st h => match Nat.ble 3 q with
    | true => D_Walk_noteMet N n q lv st h
    | false => B_Walk_noteMet N n q lv st h) 400 true 2 [(0, .inr (.inr (0, 10, 42))), (1, .inl a1), (2, .inl a2)] [] h = F_Walk_noteMet_2 N (L_Walk_noteMet N n) a1 a2 h := (rfl)
set_option maxRecDepth 1000000 in
theorem chk_Walk_noteMet : chkT 10 false prog_12_method_17_code T_Walk_noteMet = true := by decide +kernel
theorem mc_Walk_noteMet : mC 107 = prog_12_method_17_code := by rfl
theorem mx_Walk_noteMet : mL 107 = 3 ∧ mR 107 = none ∧ mK 107 = 1 ∧ (mN 107).cls = cN 10 := by decide +kernel
theorem hD_Walk_noteMet (N : Nat) {r : MH} : ∀ n pc lv st h, D_Walk_noteMet N n pc lv st h = some r → ∃ lv', (∀ q ∈ lv', q ∈ lv) ∧ seg (C_Walk_noteMet N) 3 0 rV T_Walk_noteMet [0, 2] (fun q lv st h => match Nat.ble (pc + 1) q with
    | true => D_Walk_noteMet N n q lv st h
    | false => B_Walk_noteMet N n q lv st h) 400 true pc lv' st h = some r := by
  intro n pc lv st h hf
  unfold D_Walk_noteMet at hf
  split at hf
  · rename_i hb
    have hb := Nat.eq_of_beq_eq_true hb
    subst hb
    split at hf
    · rename_i y0 e0 e1
      exact ⟨_, (sub_cons e0 (sub_cons e1 sub_nil)), (E_Walk_noteMet_0 N n _ h).trans hf⟩
    · cases hf
  · skip
    split at hf
    · rename_i hb
      have hb := Nat.eq_of_beq_eq_true hb
      subst hb
      split at hf
      · rename_i y0 y1 e0 e1 e2
        exact ⟨_, (sub_cons e0 (sub_cons e1 (sub_cons e2 sub_nil))), (E_Walk_noteMet_2 N n _ _ h).trans hf⟩
      · cases hf
    · skip
      cases hf
theorem hM_Walk_noteMet (N : Nat) {r : MH} : ∀ n pc lv st h, D_Walk_noteMet N n pc lv st h = some r → pc < 31 := by
  intro n pc lv st h hf
  unfold D_Walk_noteMet at hf
  split at hf
  · rename_i hb
    rw [Nat.eq_of_beq_eq_true hb]
    decide
  · skip
    split at hf
    · rename_i hb
      rw [Nat.eq_of_beq_eq_true hb]
      decide
    · skip
      cases hf
theorem hB_Walk_noteMet (N : Nat) {r : MH} : ∀ n pc lv st h, B_Walk_noteMet N n pc lv st h = some r → ∃ k, n = k + 1 ∧ D_Walk_noteMet N k pc lv st h = some r := by
  intro n pc lv st h hf
  unfold B_Walk_noteMet at hf
  split at hf
  · rename_i hb
    have hb := Nat.eq_of_beq_eq_true hb
    subst hb
    cases n with
    | zero =>
      split at hf
      · cases hf
      · cases hf
    | succ k =>
      refine ⟨k, rfl, ?_⟩
      exact hf
  · skip
    cases hf
theorem s_Walk_noteMet {l : Launch} {E : EV} {N : Nat} {as : List MV} {h : MH} {r : MH} (hf : w_Walk_noteMet (f_Walk_noteMet N) as h = some r) : SndM l E false 0 107 as h none r := by
  unfold w_Walk_noteMet at hf
  split at hf
  · obtain ⟨m1, m2, m3, m4⟩ := mx_Walk_noteMet
    refine snd_of (C := C_Walk_noteMet N) (own := 10) (rz := 0) (lim := 115) rV_eq m2 m4 pl_107 (TB_in _ cw_107 rfl) ⟨(fun _ => ⟨_, _, _, _, _, _, rfl, rfl, by rw [m4]; rfl⟩), (fun z => by rw [m3] at z; cases z)⟩ (fun z => by cases z) KDL_take rfl rfl (fun z => by cases z) (fun z => by cases z) (fun _ => rfl) (by rw [m1]; exact Nat.le_of_ble_eq_true rfl)
      (fun _ _ _ _ z => by cases z)
      (fun _ _ _ _ z => by cases z)
      (fun _ _ _ _ z => by cases z)
      (fun _ _ _ _ z => by cases z)
      (fun p e R s m args below meth c Q n0 F hret => ?_)
    rw [m1] at F hret ⊢
    rw [mc_Walk_noteMet] at F hret
    exact cuts_s (K := 400) (M := 31) (D := D_Walk_noteMet N) (B := B_Walk_noteMet N) F hret (chkT_ok chk_Walk_noteMet) (hM_Walk_noteMet N) (hB_Walk_noteMet N) (hD_Walk_noteMet N) N 0 _ _ _ hf
  · cases hf
def T_Walk_visitSets : List (List (Option RW)) := [
  [some (.aload_n 1, 1, [1], 0, 0), some (.iload_n 2, 1, [2], 0, 0), some (.iload_n 3, 1, [3], 0, 0), some (.invokevirtual 182, 3, [1, 7, 3, 0], 0, 0), none, none, some (.istore 4, 2, [4], 0, 0), none, some (.aload_n 0, 1, [0], 0, 0), some (.getfield 50, 3, [10, 12, 2, 4, 256, 5], 0, 0), none, none, some (.iload 4, 2, [4], 0, 0), none, some (.baload, 1, [], 0, 0), some (.ifCond .eq 4, 3, [19], 0, 0), none, none, some (.return_, 1, [], 0, 0), some (.iload_n 2, 1, [2], 0, 0), some (.aload_n 1, 1, [1], 0, 0), some (.getfield 76, 3, [0, 0, 0], 0, 0), none, none, some (.if_icmp .ge 9, 3, [33], 0, 0), none, none, some (.iload_n 2, 1, [2], 0, 0), some (.bipush 6, 2, [], 6, 0), none, some (.if_icmp .lt 10, 3, [40], 0, 0), none],
  [none, some (.aload_n 0, 1, [0], 0, 0), some (.iload 4, 2, [4], 0, 0), none, some (.invokevirtual 185, 3, [0, 107, 2, 3], 0, 0), none, none, some (.return_, 1, [], 0, 0), some (.aload_n 1, 1, [1], 0, 0), some (.iload_n 2, 1, [2], 0, 0), some (.aload_n 0, 1, [0], 0, 0), some (.getfield 9, 3, [10, 0, 0], 0, 0), none, none, some (.invokevirtual 107, 3, [1, 5, 3, 0], 0, 0), none, none, some (.istore 5, 2, [5], 0, 0), none, some (.aload_n 1, 1, [1], 0, 0), some (.iload_n 2, 1, [2], 0, 0), some (.aload_n 0, 1, [0], 0, 0), some (.getfield 9, 3, [10, 0, 0], 0, 0), none, none, some (.invokevirtual 104, 3, [1, 4, 3, 0], 0, 0), none, none, some (.istore 6, 2, [6], 0, 0), none, some (.iload 6, 2, [6], 0, 0), none],
  [some (.iload 5, 2, [5], 0, 0), none, some (.if_icmp .gt 26, 3, [92], 0, 0), none, none, some (.aload_n 1, 1, [1], 0, 0), some (.iload_n 2, 1, [2], 0, 0), some (.iload 6, 2, [6], 0, 0), none, some (.invokevirtual 97, 3, [1, 3, 3, 3], 0, 0), none, none, some (.aload_n 0, 1, [0], 0, 0), some (.aload_n 1, 1, [1], 0, 0), some (.iload_n 2, 1, [2], 0, 0), some (.iconst 1, 1, [], 1, 0), some (.iadd, 1, [], 0, 0), some (.iload 4, 2, [4], 0, 0), none, some (.invokevirtual 175, 3, [0, 106, 4, 3], 0, 0), none, none, some (.iinc 6 1, 3, [6], 1, 0), none, none, some (.goto (-27), 3, [62], 0, 0), none, none, some (.return_, 1, [], 0, 0)]]
def F_Walk_visitSets_62 (N : Nat) (rc : (Int32 → Int32 → MH → Option (MH))) (bk : (Int32 → Int32 → Int32 → Int32 → MH → Option (MH))) (a2 : Int32) (a4 : Int32) (a5 : Int32) (a6 : Int32) (h : MH) : Option (MH) :=
  if a5 < a6 then
  (some h)
  else
  ((f_Asked_put N a2 a6 h).bind (fun x6 =>
  (rc (a2 + 1) a4 x6).bind (fun x7 =>
  let v8 : Int32 := a6 + 1
  bk a2 a4 a5 v8 x7)))
def F_Walk_visitSets_0 (N : Nat) (rc : (Int32 → Int32 → MH → Option (MH))) (bk : (Int32 → Int32 → Int32 → Int32 → MH → Option (MH))) (a2 : Int32) (a3 : Int32) (h : MH) : Option (MH) :=
  (f_Asked_stillWithin N a2 a3 h).bind (fun x1 =>
  if inB x1.1 256 = true then
  (if (gI x1.2 47 (iN x1.1)) = 0 then
  (if (gI x1.2 33 0) ≤ a2 then
  ((f_Walk_noteMet N x1.1 x1.2).bind (fun x2 =>
  some x2))
  else
  (if a2 < 6 then
  ((f_Asked_mostBeside N a2 (gI x1.2 42 0) x1.2).bind (fun x3 =>
  (f_Asked_leastBeside N a2 (gI x3.2 42 0) x3.2).bind (fun x4 =>
  F_Walk_visitSets_62 N rc bk a2 x1.1 x3.1 x4.1 x4.2)))
  else
  ((f_Walk_noteMet N x1.1 x1.2).bind (fun x5 =>
  some x5))))
  else
  (some x1.2))
  else none)
def L_Walk_visitSets (N : Nat) (rc : (Int32 → Int32 → MH → Option (MH))) : Nat → (Int32 → Int32 → Int32 → Int32 → MH → Option (MH))
  | 0 => fun _ _ _ _ _ => none
  | n + 1 => F_Walk_visitSets_62 N rc (L_Walk_visitSets N rc n)
def g_Walk_visitSets (N : Nat) (rc : (Int32 → Int32 → MH → Option (MH))) (a2 : Int32) (a3 : Int32) (h : MH) : Option (MH) := F_Walk_visitSets_0 N rc (L_Walk_visitSets N rc N) a2 a3 h
def f_Walk_visitSets (N : Nat) : Nat → Int32 → Int32 → MH → Option (MH)
  | 0 => fun _ _ _ => none
  | d + 1 => g_Walk_visitSets N (f_Walk_visitSets N d)
def C_Walk_visitSets (N : Nat) (rc : (Int32 → Int32 → MH → Option (MH))) : MC := (KDL, false, (fun _ => 0), jsB, (fun j => match Nat.beq j 4 with
    | true => w_Asked_leastBeside (f_Asked_leastBeside N)
    | false => match Nat.beq j 5 with
    | true => w_Asked_mostBeside (f_Asked_mostBeside N)
    | false => match Nat.beq j 7 with
    | true => w_Asked_stillWithin (f_Asked_stillWithin N)
    | false => fun _ _ => none), (fun _ _ _ => none), (fun _ _ _ => none), (fun j => match Nat.beq j 3 with
    | true => w_Asked_put (f_Asked_put N)
    | false => match Nat.beq j 106 with
    | true => w_Walk_visitSets (rc)
    | false => match Nat.beq j 107 with
    | true => w_Walk_noteMet (f_Walk_noteMet N)
    | false => fun _ _ => none))
def D_Walk_visitSets (N : Nat) (rc : (Int32 → Int32 → MH → Option (MH))) (n pc : Nat) (lv : ML) (st : List MV) (h : MH) : Option (MH) :=
  match Nat.beq pc 0 with
  | true => (match lk lv 0, lk lv 1, lk lv 2, lk lv 3, st with
    | some (.inr (.inr (0, 10, 42))), some (.inr (.inr (0, 0, 33))), some (.inl a2), some (.inl a3), [] => F_Walk_visitSets_0 N rc (L_Walk_visitSets N rc n) a2 a3 h
    | _, _, _, _, _ => none)
  | false => match Nat.beq pc 62 with
  | true => (match lk lv 0, lk lv 1, lk lv 2, lk lv 4, lk lv 5, lk lv 6, st with
    | some (.inr (.inr (0, 10, 42))), some (.inr (.inr (0, 0, 33))), some (.inl a2), some (.inl a4), some (.inl a5), some (.inl a6), [] => F_Walk_visitSets_62 N rc (L_Walk_visitSets N rc n) a2 a4 a5 a6 h
    | _, _, _, _, _, _, _ => none)
  | false => none
def B_Walk_visitSets (N : Nat) (rc : (Int32 → Int32 → MH → Option (MH))) (n pc : Nat) (lv : ML) (st : List MV) (h : MH) : Option (MH) :=
  match Nat.beq pc 62 with
  | true => (match lk lv 0, lk lv 1, lk lv 2, lk lv 4, lk lv 5, lk lv 6, st with
    | some (.inr (.inr (0, 10, 42))), some (.inr (.inr (0, 0, 33))), some (.inl a2), some (.inl a4), some (.inl a5), some (.inl a6), [] => ((L_Walk_visitSets N rc n)) a2 a4 a5 a6 h
    | _, _, _, _, _, _, _ => none)
  | false => none
set_option maxRecDepth 1000000 in
theorem E_Walk_visitSets_0 (N : Nat) (rc : (Int32 → Int32 → MH → Option (MH))) (n : Nat) (a2 : Int32) (a3 : Int32) (h : MH) : seg (C_Walk_visitSets N rc) 7 0 rV T_Walk_visitSets [0, 62] (fun q lv st h => match Nat.ble 1 q with
    | true => D_Walk_visitSets N rc n q lv st h
    | false => B_Walk_visitSets N rc n q lv st h) 400 true 0 [(0, .inr (.inr (0, 10, 42))), (1, .inr (.inr (0, 0, 33))), (2, .inl a2), (3, .inl a3)] [] h = F_Walk_visitSets_0 N rc (L_Walk_visitSets N rc n) a2 a3 h := (rfl)
set_option maxRecDepth 1000000 in
theorem E_Walk_visitSets_62 (N : Nat) (rc : (Int32 → Int32 → MH → Option (MH))) (n : Nat) (a2 : Int32) (a4 : Int32) (a5 : Int32) (a6 : Int32) (h : MH) : seg (C_Walk_visitSets N rc) 7 0 rV T_Walk_visitSets [0, 62] (fun q lv st h => match Nat.ble 63 q with
    | true => D_Walk_visitSets N rc n q lv st h
    | false => B_Walk_visitSets N rc n q lv st h) 400 true 62 [(0, .inr (.inr (0, 10, 42))), (1, .inr (.inr (0, 0, 33))), (2, .inl a2), (4, .inl a4), (5, .inl a5), (6, .inl a6)] [] h = F_Walk_visitSets_62 N rc (L_Walk_visitSets N rc n) a2 a4 a5 a6 h := (rfl)
set_option maxRecDepth 1000000 in
theorem chk_Walk_visitSets : chkT 10 false prog_12_method_16_code T_Walk_visitSets = true := by decide +kernel
theorem mc_Walk_visitSets : mC 106 = prog_12_method_16_code := by rfl
theorem mx_Walk_visitSets : mL 106 = 7 ∧ mR 106 = none ∧ mK 106 = 1 ∧ (mN 106).cls = cN 10 := by decide +kernel
theorem hD_Walk_visitSets (N : Nat) (rc : (Int32 → Int32 → MH → Option (MH))) {r : MH} : ∀ n pc lv st h, D_Walk_visitSets N rc n pc lv st h = some r → ∃ lv', (∀ q ∈ lv', q ∈ lv) ∧ seg (C_Walk_visitSets N rc) 7 0 rV T_Walk_visitSets [0, 62] (fun q lv st h => match Nat.ble (pc + 1) q with
    | true => D_Walk_visitSets N rc n q lv st h
    | false => B_Walk_visitSets N rc n q lv st h) 400 true pc lv' st h = some r := by
  intro n pc lv st h hf
  unfold D_Walk_visitSets at hf
  split at hf
  · rename_i hb
    have hb := Nat.eq_of_beq_eq_true hb
    subst hb
    split at hf
    · rename_i y0 y1 e0 e1 e2 e3
      exact ⟨_, (sub_cons e0 (sub_cons e1 (sub_cons e2 (sub_cons e3 sub_nil)))), (E_Walk_visitSets_0 N rc n _ _ h).trans hf⟩
    · cases hf
  · skip
    split at hf
    · rename_i hb
      have hb := Nat.eq_of_beq_eq_true hb
      subst hb
      split at hf
      · rename_i y0 y1 y2 y3 e0 e1 e2 e3 e4 e5
        exact ⟨_, (sub_cons e0 (sub_cons e1 (sub_cons e2 (sub_cons e3 (sub_cons e4 (sub_cons e5 sub_nil)))))), (E_Walk_visitSets_62 N rc n _ _ _ _ h).trans hf⟩
      · cases hf
    · skip
      cases hf
theorem hM_Walk_visitSets (N : Nat) (rc : (Int32 → Int32 → MH → Option (MH))) {r : MH} : ∀ n pc lv st h, D_Walk_visitSets N rc n pc lv st h = some r → pc < 93 := by
  intro n pc lv st h hf
  unfold D_Walk_visitSets at hf
  split at hf
  · rename_i hb
    rw [Nat.eq_of_beq_eq_true hb]
    decide
  · skip
    split at hf
    · rename_i hb
      rw [Nat.eq_of_beq_eq_true hb]
      decide
    · skip
      cases hf
theorem hB_Walk_visitSets (N : Nat) (rc : (Int32 → Int32 → MH → Option (MH))) {r : MH} : ∀ n pc lv st h, B_Walk_visitSets N rc n pc lv st h = some r → ∃ k, n = k + 1 ∧ D_Walk_visitSets N rc k pc lv st h = some r := by
  intro n pc lv st h hf
  unfold B_Walk_visitSets at hf
  split at hf
  · rename_i hb
    have hb := Nat.eq_of_beq_eq_true hb
    subst hb
    cases n with
    | zero =>
      split at hf
      · cases hf
      · cases hf
    | succ k =>
      refine ⟨k, rfl, ?_⟩
      exact hf
  · skip
    cases hf
theorem sg_Walk_visitSets {l : Launch} {E : EV} {N : Nat} {rc : (Int32 → Int32 → MH → Option (MH))} {dp d0 : Nat} (hc : 2 ≤ dp) (h0 : d0 + 1 ≤ dp) (q0 : ∀ as h r, w_Walk_visitSets (rc) as h = some r → SndM l E false d0 106 as h none r) {as : List MV} {h : MH} {r : MH} (hf : w_Walk_visitSets (g_Walk_visitSets N rc) as h = some r) : SndM l E false dp 106 as h none r := by
  unfold w_Walk_visitSets at hf
  split at hf
  · obtain ⟨m1, m2, m3, m4⟩ := mx_Walk_visitSets
    refine snd_of (C := C_Walk_visitSets N rc) (own := 10) (rz := 0) (lim := 115) rV_eq m2 m4 pl_106 (TB_in _ cw_106 rfl) ⟨(fun _ => ⟨_, _, _, _, _, _, rfl, rfl, by rw [m4]; rfl⟩), (fun z => by rw [m3] at z; cases z)⟩ (fun z => by cases z) KDL_take rfl rfl (fun z => by cases z) (fun z => by cases z) (fun _ => rfl) (by rw [m1]; exact Nat.le_of_ble_eq_true rfl)
      (fun j as h x z => by
      dsimp only [C_Walk_visitSets] at z
      cases hb : Nat.beq j 4 with
      | true =>
        have hb := Nat.eq_of_beq_eq_true hb
        subst hb
        exact ⟨1, by omega, (fun z => by cases z), s_Asked_leastBeside z⟩
      | false =>
        rw [hb] at z
        dsimp only at z
        cases hb : Nat.beq j 5 with
        | true =>
          have hb := Nat.eq_of_beq_eq_true hb
          subst hb
          exact ⟨1, by omega, (fun z => by cases z), s_Asked_mostBeside z⟩
        | false =>
          rw [hb] at z
          dsimp only at z
          cases hb : Nat.beq j 7 with
          | true =>
            have hb := Nat.eq_of_beq_eq_true hb
            subst hb
            exact ⟨0, by omega, (fun z => by cases z), s_Asked_stillWithin z⟩
          | false =>
            rw [hb] at z
            dsimp only at z
            cases z)
      (fun _ _ _ _ z => by cases z)
      (fun _ _ _ _ z => by cases z)
      (fun j as h x z => by
      dsimp only [C_Walk_visitSets] at z
      cases hb : Nat.beq j 3 with
      | true =>
        have hb := Nat.eq_of_beq_eq_true hb
        subst hb
        exact ⟨0, by omega, (fun z => by cases z), s_Asked_put z⟩
      | false =>
        rw [hb] at z
        dsimp only at z
        cases hb : Nat.beq j 106 with
        | true =>
          have hb := Nat.eq_of_beq_eq_true hb
          subst hb
          exact ⟨_, h0, (fun z => by cases z), q0 _ _ _ z⟩
        | false =>
          rw [hb] at z
          dsimp only at z
          cases hb : Nat.beq j 107 with
          | true =>
            have hb := Nat.eq_of_beq_eq_true hb
            subst hb
            exact ⟨0, by omega, (fun z => by cases z), s_Walk_noteMet z⟩
          | false =>
            rw [hb] at z
            dsimp only at z
            cases z)
      (fun p e R s m args below meth c Q n0 F hret => ?_)
    rw [m1] at F hret ⊢
    rw [mc_Walk_visitSets] at F hret
    exact cuts_s (K := 400) (M := 93) (D := D_Walk_visitSets N rc) (B := B_Walk_visitSets N rc) F hret (chkT_ok chk_Walk_visitSets) (hM_Walk_visitSets N rc) (hB_Walk_visitSets N rc) (hD_Walk_visitSets N rc) N 0 _ _ _ hf
  · cases hf
theorem s_Walk_visitSets {l : Launch} {E : EV} {N : Nat} : ∀ (d : Nat) {as : List MV} {h : MH} {r : MH}, w_Walk_visitSets (f_Walk_visitSets N d) as h = some r → SndM l E false (2 + d) 106 as h none r
  | 0, as, h, r, hf => by
    unfold w_Walk_visitSets at hf
    split at hf
    · cases hf
    · cases hf
  | d + 1, as, h, r, hf => sg_Walk_visitSets (dp := 2 + (d + 1)) (d0 := 2 + d) (by omega) (by omega) (fun as h r z => s_Walk_visitSets d z) hf
