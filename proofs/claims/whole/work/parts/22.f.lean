def T_S_shake : List (List (Option RW)) := [
  [some (.iload_n 1, 1, [1], 0, 0), some (.invokestatic 204, 3, [2, 153, 1, 0], 0, 0), none, none, some (.ifCond .eq 21, 3, [25], 0, 0), none, none, some (.aload_n 0, 1, [0], 0, 0), some (.iload_n 2, 1, [2], 0, 0), some (.invokevirtual 195, 3, [0, 156, 2, 0], 0, 0), none, none, some (.ifCond .eq 13, 3, [25], 0, 0), none, none, some (.iload_n 3, 1, [3], 0, 0), some (.iconst 0, 1, [], 0, 0), some (.bipush 99, 2, [], 99, 0), none, some (.invokestatic 207, 3, [2, 150, 3, 0], 0, 0), none, none, some (.ifCond .ne 9, 3, [31], 0, 0), none, none, some (.aload_n 0, 1, [0], 0, 0), some (.iconst 1, 1, [], 1, 0), some (.invokevirtual 109, 3, [0, 147, 2, 0], 0, 0), none, none, some (.ireturn, 1, [], 0, 0), some (.aload_n 0, 1, [0], 0, 0)],
  [some (.getfield 39, 3, [11, 4, 2, 0, 8, 28], 0, 0), none, none, some (.getfield 336, 3, [8, 3, 0], 0, 0), none, none, some (.bipush 30, 2, [], 30, 0), none, some (.if_icmp .lt 9, 3, [49], 0, 0), none, none, some (.aload_n 0, 1, [0], 0, 0), some (.iconst 4, 1, [], 4, 0), some (.invokevirtual 109, 3, [0, 147, 2, 0], 0, 0), none, none, some (.ireturn, 1, [], 0, 0), some (.aload_n 0, 1, [0], 0, 0), some (.getfield 39, 3, [11, 4, 2, 0, 8, 28], 0, 0), none, none, some (.iload_n 1, 1, [1], 0, 0), some (.iload_n 2, 1, [2], 0, 0), some (.iload_n 3, 1, [3], 0, 0), some (.invokevirtual 337, 3, [1, 81, 4, 3], 0, 0), none, none, some (.aload_n 0, 1, [0], 0, 0), some (.invokevirtual 116, 3, [0, 145, 1, 0], 0, 0), none, none, some (.ireturn, 1, [], 0, 0)]]
def f_S_shake (N : Nat) (a1 : Int32) (a2 : Int32) (a3 : Int32) (h : MH) : Option (Int32 × MH) :=
  (f_S_isYear N a1 h).bind (fun x1 =>
  if x1.1 = 0 then
  ((f_S_deny N 1 x1.2).bind (fun x2 =>
  match narOK 1 x2.1 with
  | true => some (x2.1, x2.2)
  | false => none))
  else
  ((f_S_isCell N a2 x1.2).bind (fun x3 =>
  if x3.1 = 0 then
  ((f_S_deny N 1 x3.2).bind (fun x4 =>
  match narOK 1 x4.1 with
  | true => some (x4.1, x4.2)
  | false => none))
  else
  ((f_S_isWithin N a3 0 99 x3.2).bind (fun x5 =>
  if x5.1 = 0 then
  ((f_S_deny N 1 x5.2).bind (fun x6 =>
  match narOK 1 x6.1 with
  | true => some (x6.1, x6.2)
  | false => none))
  else
  (if (gI x5.2 29 3) < 30 then
  ((f_Shakes_add N a1 a2 a3 x5.2).bind (fun x7 =>
  (f_S_allow N x7).bind (fun x8 =>
  match narOK 1 x8.1 with
  | true => some (x8.1, x8.2)
  | false => none)))
  else
  ((f_S_deny N 4 x5.2).bind (fun x9 =>
  match narOK 1 x9.1 with
  | true => some (x9.1, x9.2)
  | false => none))))))))
def C_S_shake (N : Nat) : MC := (KDL, false, (fun _ => 0), jsB, (fun j => match Nat.beq j 145 with
    | true => w_S_allow (f_S_allow N)
    | false => match Nat.beq j 147 with
    | true => w_S_deny (f_S_deny N)
    | false => match Nat.beq j 150 with
    | true => w_S_isWithin (f_S_isWithin N)
    | false => match Nat.beq j 153 with
    | true => w_S_isYear (f_S_isYear N)
    | false => match Nat.beq j 156 with
    | true => w_S_isCell (f_S_isCell N)
    | false => fun _ _ => none), (fun _ _ _ => none), (fun _ _ _ => none), (fun j => match Nat.beq j 81 with
    | true => w_Shakes_add (f_Shakes_add N)
    | false => fun _ _ => none))
def D_S_shake (N : Nat) (n pc : Nat) (lv : ML) (st : List MV) (h : MH) : Option (Int32 × MH) :=
  match Nat.beq pc 0 with
  | true => (match lk lv 0, lk lv 1, lk lv 2, lk lv 3, st with
    | some (.inr (.inr (0, 11, 1))), some (.inl a1), some (.inl a2), some (.inl a3), [] => f_S_shake N a1 a2 a3 h
    | _, _, _, _, _ => none)
  | false => none
set_option maxRecDepth 1000000 in
theorem E_S_shake_0 (N : Nat) (n : Nat) (a1 : Int32) (a2 : Int32) (a3 : Int32) (h : MH) : seg (C_S_shake N) 4 1 rI T_S_shake [0] (fun q lv st h => match Nat.ble 1 q with
    | true => D_S_shake N n q lv st h
    | false => none) 400 true 0 [(0, .inr (.inr (0, 11, 1))), (1, .inl a1), (2, .inl a2), (3, .inl a3)] [] h = f_S_shake N a1 a2 a3 h := (rfl)
set_option maxRecDepth 1000000 in
theorem chk_S_shake : chkT 11 false prog_1_method_31_code T_S_shake = true := by decide +kernel
theorem mc_S_shake : mC 138 = prog_1_method_31_code := by rfl
theorem mx_S_shake : mL 138 = 4 ∧ mR 138 = some .boolean ∧ mK 138 = 1 ∧ (mN 138).cls = cN 11 := by decide +kernel
theorem hD_S_shake (N : Nat) {r : Int32 × MH} : ∀ n pc lv st h, D_S_shake N n pc lv st h = some r → ∃ lv', (∀ q ∈ lv', q ∈ lv) ∧ seg (C_S_shake N) 4 1 rI T_S_shake [0] (fun q lv st h => match Nat.ble (pc + 1) q with
    | true => D_S_shake N n q lv st h
    | false => none) 400 true pc lv' st h = some r := by
  intro n pc lv st h hf
  unfold D_S_shake at hf
  split at hf
  · rename_i hb
    have hb := Nat.eq_of_beq_eq_true hb
    subst hb
    split at hf
    · rename_i y0 y1 y2 e0 e1 e2 e3
      exact ⟨_, (sub_cons e0 (sub_cons e1 (sub_cons e2 (sub_cons e3 sub_nil)))), (E_S_shake_0 N n _ _ _ h).trans hf⟩
    · cases hf
  · skip
    cases hf
theorem hM_S_shake (N : Nat) {r : Int32 × MH} : ∀ n pc lv st h, D_S_shake N n pc lv st h = some r → pc < 64 := by
  intro n pc lv st h hf
  unfold D_S_shake at hf
  split at hf
  · rename_i hb
    rw [Nat.eq_of_beq_eq_true hb]
    decide
  · skip
    cases hf
theorem s_S_shake {l : Launch} {E : EV} {N : Nat} {as : List MV} {h : MH} {r : Int32 × MH} (hf : w_S_shake (f_S_shake N) as h = some r) : SndM l E false 2 138 as h (some (.inl r.1)) r.2 := by
  unfold w_S_shake at hf
  split at hf
  · obtain ⟨m1, m2, m3, m4⟩ := mx_S_shake
    refine snd_of (C := C_S_shake N) (own := 11) (rz := 1) (lim := 115) rI_eq m2 m4 pl_138 (TB_in _ cw_138 rfl) ⟨(fun _ => ⟨_, _, _, _, _, _, rfl, rfl, by rw [m4]; rfl⟩), (fun z => by rw [m3] at z; cases z)⟩ (fun z => by cases z) KDL_take rfl rfl (fun z => by cases z) (fun z => by cases z) (fun _ => rfl) (by rw [m1]; exact Nat.le_of_ble_eq_true rfl)
      (fun j as h x z => by
      dsimp only [C_S_shake] at z
      cases hb : Nat.beq j 145 with
      | true =>
        have hb := Nat.eq_of_beq_eq_true hb
        subst hb
        exact ⟨0, by decide, (fun z => by cases z), s_S_allow z⟩
      | false =>
        rw [hb] at z
        dsimp only at z
        cases hb : Nat.beq j 147 with
        | true =>
          have hb := Nat.eq_of_beq_eq_true hb
          subst hb
          exact ⟨0, by decide, (fun z => by cases z), s_S_deny z⟩
        | false =>
          rw [hb] at z
          dsimp only at z
          cases hb : Nat.beq j 150 with
          | true =>
            have hb := Nat.eq_of_beq_eq_true hb
            subst hb
            exact ⟨0, by decide, (fun z => by cases z), s_S_isWithin z⟩
          | false =>
            rw [hb] at z
            dsimp only at z
            cases hb : Nat.beq j 153 with
            | true =>
              have hb := Nat.eq_of_beq_eq_true hb
              subst hb
              exact ⟨1, by decide, (fun z => by cases z), s_S_isYear z⟩
            | false =>
              rw [hb] at z
              dsimp only at z
              cases hb : Nat.beq j 156 with
              | true =>
                have hb := Nat.eq_of_beq_eq_true hb
                subst hb
                exact ⟨1, by decide, (fun z => by cases z), s_S_isCell z⟩
              | false =>
                rw [hb] at z
                dsimp only at z
                cases z)
      (fun _ _ _ _ z => by cases z)
      (fun _ _ _ _ z => by cases z)
      (fun j as h x z => by
      dsimp only [C_S_shake] at z
      cases hb : Nat.beq j 81 with
      | true =>
        have hb := Nat.eq_of_beq_eq_true hb
        subst hb
        exact ⟨0, by decide, (fun z => by cases z), s_Shakes_add z⟩
      | false =>
        rw [hb] at z
        dsimp only at z
        cases z)
      (fun p e R s m args below meth c Q n0 F hret => ?_)
    rw [m1] at F hret ⊢
    rw [mc_S_shake] at F hret
    exact cuts_s (K := 400) (M := 64) (D := D_S_shake N) (B := fun _ _ _ _ _ => none) F hret (chkT_ok chk_S_shake) (hM_S_shake N) (fun _ _ _ _ _ z => by cases z) (hD_S_shake N) N 0 _ _ _ hf
  · cases hf
def T_S_saved : List (List (Option RW)) := [
  [some (.aload_n 0, 1, [0], 0, 0), some (.iload_n 1, 1, [1], 0, 0), some (.invokevirtual 195, 3, [0, 156, 2, 0], 0, 0), none, none, some (.ifCond .eq 18, 3, [23], 0, 0), none, none, some (.iload_n 2, 1, [2], 0, 0), some (.invokestatic 204, 3, [2, 153, 1, 0], 0, 0), none, none, some (.ifCond .eq 11, 3, [23], 0, 0), none, none, some (.iload_n 3, 1, [3], 0, 0), some (.iconst 2, 1, [], 2, 0), some (.invokestatic 186, 3, [2, 151, 2, 0], 0, 0), none, none, some (.ifCond .ne 9, 3, [29], 0, 0), none, none, some (.aload_n 0, 1, [0], 0, 0), some (.iconst 1, 1, [], 1, 0), some (.invokevirtual 128, 3, [0, 146, 2, 0], 0, 0), none, none, some (.ireturn, 1, [], 0, 0), some (.iload_n 3, 1, [3], 0, 0), some (.ifCond .ne 15, 3, [45], 0, 0), none],
  [none, some (.aload_n 0, 1, [0], 0, 0), some (.getfield 81, 3, [11, 11, 3, 0, 2], 0, 0), none, none, some (.getfield 340, 3, [2, 5, 2, 1, 6, 4], 0, 0), none, none, some (.iload_n 1, 1, [1], 0, 0), some (.iaload, 1, [], 0, 0), some (.goto 12, 3, [54], 0, 0), none, none, some (.aload_n 0, 1, [0], 0, 0), some (.getfield 81, 3, [11, 11, 3, 0, 2], 0, 0), none, none, some (.getfield 343, 3, [2, 6, 2, 1, 6, 5], 0, 0), none, none, some (.iload_n 1, 1, [1], 0, 0), some (.iaload, 1, [], 0, 0), some (.istore 4, 2, [4], 0, 0), none, some (.aload_n 0, 1, [0], 0, 0), some (.getfield 81, 3, [11, 11, 3, 0, 2], 0, 0), none, none, some (.getfield 346, 3, [2, 4, 2, 1, 6, 3], 0, 0), none, none, some (.iload_n 1, 1, [1], 0, 0)],
  [some (.iaload, 1, [], 0, 0), some (.i2l, 1, [], 0, 0), some (.iload 4, 2, [4], 0, 0), none, some (.i2l, 1, [], 0, 0), some (.lmul, 1, [], 0, 0), some (.lstore 5, 2, [5], 0, 0), none, some (.aload_n 0, 1, [0], 0, 0), some (.aload_n 0, 1, [0], 0, 0), some (.getfield 39, 3, [11, 4, 2, 0, 8, 28], 0, 0), none, none, some (.iload_n 1, 1, [1], 0, 0), some (.iload_n 2, 1, [2], 0, 0), some (.lload 5, 2, [5], 0, 0), none, some (.invokevirtual 349, 3, [1, 82, 4, 1], 0, 0), none, none, some (.ldc2_w 353, 3, [], 0, 10000), none, none, some (.invokevirtual 262, 3, [0, 148, 3, 0], 0, 0), none, none, some (.ireturn, 1, [], 0, 0)]]
def F_S_saved_54 (N : Nat) (a1 : Int32) (a2 : Int32) (as0 : Int32) (h : MH) : Option (Int32 × MH) :=
  if inB a1 6 = true then
  (let v7 : Int64 := (((gI h ((gR h 1 11) + 3) (iN a1))).toInt64) * as0.toInt64
  (f_Shakes_left N a1 a2 v7 h).bind (fun x8 =>
  (f_S_tell N x8.1 10000 x8.2).bind (fun x9 =>
  some (x9.1, x9.2))))
  else none
def f_S_saved (N : Nat) (a1 : Int32) (a2 : Int32) (a3 : Int32) (h : MH) : Option (Int32 × MH) :=
  (f_S_isCell N a1 h).bind (fun x1 =>
  if x1.1 = 0 then
  ((f_S_refuse N 1 x1.2).bind (fun x2 =>
  some (x2.1, x2.2)))
  else
  ((f_S_isYear N a2 x1.2).bind (fun x3 =>
  if x3.1 = 0 then
  ((f_S_refuse N 1 x3.2).bind (fun x4 =>
  some (x4.1, x4.2)))
  else
  ((f_S_isOneOf N a3 2 x3.2).bind (fun x5 =>
  if x5.1 = 0 then
  ((f_S_refuse N 1 x5.2).bind (fun x6 =>
  some (x6.1, x6.2)))
  else
  (if a3 = 0 then
  (if inB a1 6 = true then
  (F_S_saved_54 N a1 a2 (gI x5.2 ((gR x5.2 1 11) + 4) (iN a1)) x5.2)
  else none)
  else
  (if inB a1 6 = true then
  (F_S_saved_54 N a1 a2 (gI x5.2 ((gR x5.2 1 11) + 5) (iN a1)) x5.2)
  else none)))))))
def C_S_saved (N : Nat) : MC := (KDL, false, (fun _ => 0), jsB, (fun j => match Nat.beq j 146 with
    | true => w_S_refuse (f_S_refuse N)
    | false => match Nat.beq j 148 with
    | true => w_S_tell (f_S_tell N)
    | false => match Nat.beq j 151 with
    | true => w_S_isOneOf (f_S_isOneOf N)
    | false => match Nat.beq j 153 with
    | true => w_S_isYear (f_S_isYear N)
    | false => match Nat.beq j 156 with
    | true => w_S_isCell (f_S_isCell N)
    | false => fun _ _ => none), (fun j => match Nat.beq j 82 with
    | true => w_Shakes_left (f_Shakes_left N)
    | false => fun _ _ => none), (fun _ _ _ => none), (fun _ _ _ => none))
def D_S_saved (N : Nat) (n pc : Nat) (lv : ML) (st : List MV) (h : MH) : Option (Int32 × MH) :=
  match Nat.beq pc 0 with
  | true => (match lk lv 0, lk lv 1, lk lv 2, lk lv 3, st with
    | some (.inr (.inr (0, 11, 1))), some (.inl a1), some (.inl a2), some (.inl a3), [] => f_S_saved N a1 a2 a3 h
    | _, _, _, _, _ => none)
  | false => match Nat.beq pc 54 with
  | true => (match lk lv 0, lk lv 1, lk lv 2, st with
    | some (.inr (.inr (0, 11, 1))), some (.inl a1), some (.inl a2), [.inl as0] => F_S_saved_54 N a1 a2 as0 h
    | _, _, _, _ => none)
  | false => none
set_option maxRecDepth 1000000 in
theorem E_S_saved_0 (N : Nat) (n : Nat) (a1 : Int32) (a2 : Int32) (a3 : Int32) (h : MH) : seg (C_S_saved N) 7 0 rI T_S_saved [0, 54] (fun q lv st h => match Nat.ble 1 q with
    | true => D_S_saved N n q lv st h
    | false => none) 400 true 0 [(0, .inr (.inr (0, 11, 1))), (1, .inl a1), (2, .inl a2), (3, .inl a3)] [] h = f_S_saved N a1 a2 a3 h := (rfl)
set_option maxRecDepth 1000000 in
theorem E_S_saved_54 (N : Nat) (n : Nat) (a1 : Int32) (a2 : Int32) (as0 : Int32) (h : MH) : seg (C_S_saved N) 7 0 rI T_S_saved [0, 54] (fun q lv st h => match Nat.ble 55 q with
    | true => D_S_saved N n q lv st h
    | false => none) 400 true 54 [(0, .inr (.inr (0, 11, 1))), (1, .inl a1), (2, .inl a2)] [.inl as0] h = F_S_saved_54 N a1 a2 as0 h := (rfl)
set_option maxRecDepth 1000000 in
theorem chk_S_saved : chkT 11 false prog_1_method_32_code T_S_saved = true := by decide +kernel
theorem mc_S_saved : mC 139 = prog_1_method_32_code := by rfl
theorem mx_S_saved : mL 139 = 7 ∧ mR 139 = some .int ∧ mK 139 = 1 ∧ (mN 139).cls = cN 11 := by decide +kernel
theorem hD_S_saved (N : Nat) {r : Int32 × MH} : ∀ n pc lv st h, D_S_saved N n pc lv st h = some r → ∃ lv', (∀ q ∈ lv', q ∈ lv) ∧ seg (C_S_saved N) 7 0 rI T_S_saved [0, 54] (fun q lv st h => match Nat.ble (pc + 1) q with
    | true => D_S_saved N n q lv st h
    | false => none) 400 true pc lv' st h = some r := by
  intro n pc lv st h hf
  unfold D_S_saved at hf
  split at hf
  · rename_i hb
    have hb := Nat.eq_of_beq_eq_true hb
    subst hb
    split at hf
    · rename_i y0 y1 y2 e0 e1 e2 e3
      exact ⟨_, (sub_cons e0 (sub_cons e1 (sub_cons e2 (sub_cons e3 sub_nil)))), (E_S_saved_0 N n _ _ _ h).trans hf⟩
    · cases hf
  · skip
    split at hf
    · rename_i hb
      have hb := Nat.eq_of_beq_eq_true hb
      subst hb
      split at hf
      · rename_i y0 y1 y2 e0 e1 e2
        exact ⟨_, (sub_cons e0 (sub_cons e1 (sub_cons e2 sub_nil))), (E_S_saved_54 N n _ _ _ h).trans hf⟩
      · cases hf
    · skip
      cases hf
theorem hM_S_saved (N : Nat) {r : Int32 × MH} : ∀ n pc lv st h, D_S_saved N n pc lv st h = some r → pc < 91 := by
  intro n pc lv st h hf
  unfold D_S_saved at hf
  split at hf
  · rename_i hb
    rw [Nat.eq_of_beq_eq_true hb]
    decide
  · skip
    split at hf
    · rename_i hb
      rw [Nat.eq_of_beq_eq_true hb]
      decide
    · skip
      cases hf
theorem s_S_saved {l : Launch} {E : EV} {N : Nat} {as : List MV} {h : MH} {r : Int32 × MH} (hf : w_S_saved (f_S_saved N) as h = some r) : SndM l E false 2 139 as h (some (.inl r.1)) r.2 := by
  unfold w_S_saved at hf
  split at hf
  · obtain ⟨m1, m2, m3, m4⟩ := mx_S_saved
    refine snd_of (C := C_S_saved N) (own := 11) (rz := 0) (lim := 115) rI_eq m2 m4 pl_139 (TB_in _ cw_139 rfl) ⟨(fun _ => ⟨_, _, _, _, _, _, rfl, rfl, by rw [m4]; rfl⟩), (fun z => by rw [m3] at z; cases z)⟩ (fun z => by cases z) KDL_take rfl rfl (fun z => by cases z) (fun z => by cases z) (fun _ => rfl) (by rw [m1]; exact Nat.le_of_ble_eq_true rfl)
      (fun j as h x z => by
      dsimp only [C_S_saved] at z
      cases hb : Nat.beq j 146 with
      | true =>
        have hb := Nat.eq_of_beq_eq_true hb
        subst hb
        exact ⟨0, by decide, (fun z => by cases z), s_S_refuse z⟩
      | false =>
        rw [hb] at z
        dsimp only at z
        cases hb : Nat.beq j 148 with
        | true =>
          have hb := Nat.eq_of_beq_eq_true hb
          subst hb
          exact ⟨1, by decide, (fun z => by cases z), s_S_tell z⟩
        | false =>
          rw [hb] at z
          dsimp only at z
          cases hb : Nat.beq j 151 with
          | true =>
            have hb := Nat.eq_of_beq_eq_true hb
            subst hb
            exact ⟨0, by decide, (fun z => by cases z), s_S_isOneOf z⟩
          | false =>
            rw [hb] at z
            dsimp only at z
            cases hb : Nat.beq j 153 with
            | true =>
              have hb := Nat.eq_of_beq_eq_true hb
              subst hb
              exact ⟨1, by decide, (fun z => by cases z), s_S_isYear z⟩
            | false =>
              rw [hb] at z
              dsimp only at z
              cases hb : Nat.beq j 156 with
              | true =>
                have hb := Nat.eq_of_beq_eq_true hb
                subst hb
                exact ⟨1, by decide, (fun z => by cases z), s_S_isCell z⟩
              | false =>
                rw [hb] at z
                dsimp only at z
                cases z)
      (fun j as h x z => by
      dsimp only [C_S_saved] at z
      cases hb : Nat.beq j 82 with
      | true =>
        have hb := Nat.eq_of_beq_eq_true hb
        subst hb
        exact ⟨1, by decide, (fun z => by cases z), s_Shakes_left z⟩
      | false =>
        rw [hb] at z
        dsimp only at z
        cases z)
      (fun _ _ _ _ z => by cases z)
      (fun _ _ _ _ z => by cases z)
      (fun p e R s m args below meth c Q n0 F hret => ?_)
    rw [m1] at F hret ⊢
    rw [mc_S_saved] at F hret
    exact cuts_s (K := 400) (M := 91) (D := D_S_saved N) (B := fun _ _ _ _ _ => none) F hret (chkT_ok chk_S_saved) (hM_S_saved N) (fun _ _ _ _ _ z => by cases z) (hD_S_saved N) N 0 _ _ _ hf
  · cases hf
def T_S_chooseNet : List (List (Option RW)) := [
  [some (.aload_n 0, 1, [0], 0, 0), some (.getfield 25, 3, [11, 2, 2, 0, 3, 15], 0, 0), none, none, some (.aload_n 0, 1, [0], 0, 0), some (.getfield 81, 3, [11, 11, 3, 0, 2], 0, 0), none, none, some (.getfield 192, 3, [2, 1, 0], 0, 0), none, none, some (.invokevirtual 393, 3, [1, 23, 2, 0], 0, 0), none, none, some (.istore_n 3, 1, [3], 0, 0), some (.iconst (-1), 1, [], (-1), 0), some (.istore 4, 2, [4], 0, 0), none, some (.iconst 0, 1, [], 0, 0), some (.istore 5, 2, [5], 0, 0), none, some (.iconst 0, 1, [], 0, 0), some (.istore 6, 2, [6], 0, 0), none, some (.iconst 0, 1, [], 0, 0), some (.istore 7, 2, [7], 0, 0), none, some (.iload 7, 2, [7], 0, 0), none, some (.iconst 1, 1, [], 1, 0), some (.aload_n 0, 1, [0], 0, 0), some (.getfield 81, 3, [11, 11, 3, 0, 2], 0, 0)],
  [none, none, some (.getfield 192, 3, [2, 1, 0], 0, 0), none, none, some (.ishl, 1, [], 0, 0), some (.if_icmp .ge 91, 3, [129], 0, 0), none, none, some (.aload_n 1, 1, [1], 0, 0), some (.iload 7, 2, [7], 0, 0), none, some (.aload_n 0, 1, [0], 0, 0), some (.getfield 81, 3, [11, 11, 3, 0, 2], 0, 0), none, none, some (.getfield 192, 3, [2, 1, 0], 0, 0), none, none, some (.invokevirtual 396, 3, [1, 90, 3, 0], 0, 0), none, none, some (.istore 8, 2, [8], 0, 0), none, some (.iload 7, 2, [7], 0, 0), none, some (.iload_n 3, 1, [3], 0, 0), some (.iand, 1, [], 0, 0), some (.ifCond .ne 63, 3, [123], 0, 0), none, none, some (.iload 8, 2, [8], 0, 0)],
  [none, some (.iload_n 2, 1, [2], 0, 0), some (.if_icmp .le 6, 3, [72], 0, 0), none, none, some (.goto 54, 3, [123], 0, 0), none, none, some (.aload_n 0, 1, [0], 0, 0), some (.getfield 60, 3, [11, 7, 2, 0, 6, 47], 0, 0), none, none, some (.aload_n 0, 1, [0], 0, 0), some (.getfield 81, 3, [11, 11, 3, 0, 2], 0, 0), none, none, some (.iload 7, 2, [7], 0, 0), none, some (.iload_n 3, 1, [3], 0, 0), some (.ior, 1, [], 0, 0), some (.iconst (-1), 1, [], (-1), 0), some (.invokevirtual 329, 3, [1, 46, 4, 0], 0, 0), none, none, some (.istore 9, 2, [9], 0, 0), none, some (.iload 9, 2, [9], 0, 0), none, some (.iload 4, 2, [4], 0, 0), none, some (.if_icmp .gt 17, 3, [111], 0, 0), none],
  [none, some (.iload 9, 2, [9], 0, 0), none, some (.iload 4, 2, [4], 0, 0), none, some (.if_icmp .ne 22, 3, [123], 0, 0), none, none, some (.iload 8, 2, [8], 0, 0), none, some (.iload 5, 2, [5], 0, 0), none, some (.if_icmp .ge 15, 3, [123], 0, 0), none, none, some (.iload 9, 2, [9], 0, 0), none, some (.istore 4, 2, [4], 0, 0), none, some (.iload 8, 2, [8], 0, 0), none, some (.istore 5, 2, [5], 0, 0), none, some (.iload 7, 2, [7], 0, 0), none, some (.istore 6, 2, [6], 0, 0), none, some (.iinc 7 1, 3, [7], 1, 0), none, none, some (.goto (-99), 3, [27], 0, 0), none],
  [none, some (.aload_n 0, 1, [0], 0, 0), some (.iload 6, 2, [6], 0, 0), none, some (.putfield 98, 3, [11, 16, 0], 0, 0), none, none, some (.aload_n 0, 1, [0], 0, 0), some (.iload 5, 2, [5], 0, 0), none, some (.putfield 101, 3, [11, 17, 0], 0, 0), none, none, some (.iload 4, 2, [4], 0, 0), none, some (.ireturn, 1, [], 0, 0)]]
def F_S_chooseNet_111 (N : Nat) (bk : (Nat → Int32 → Int32 → Int32 → Int32 → Int32 → Int32 → MH → Option (Int32 × MH))) (r1 : Nat) (a2 : Int32) (a3 : Int32) (a7 : Int32) (a8 : Int32) (a9 : Int32) (h : MH) : Option (Int32 × MH) :=
  let v10 : Int32 := a7 + 1
  bk r1 a2 a3 a9 a8 a7 v10 h
def F_S_chooseNet_27 (N : Nat) (bk : (Nat → Int32 → Int32 → Int32 → Int32 → Int32 → Int32 → MH → Option (Int32 × MH))) (r1 : Nat) (a2 : Int32) (a3 : Int32) (a4 : Int32) (a5 : Int32) (a6 : Int32) (a7 : Int32) (h : MH) : Option (Int32 × MH) :=
  if ((1 : Int32) <<< ((gI h (gR h 1 11) 1) &&& 31)) ≤ a7 then
  (let h2 : MH := sI h 1 16 a6
  let h3 : MH := sI h2 1 17 a5
  some (a4, h3))
  else
  ((f_Tray_sumOf N r1 a7 (gI h (gR h 1 11) 1) h).bind (fun x4 =>
  if (a7 &&& a3) = 0 then
  (if x4.1 ≤ a2 then
  ((f_Ranks_of N (gR x4.2 1 11) (a7 ||| a3) ((-1)) x4.2).bind (fun x5 =>
  if a4 < x5.1 then
  (F_S_chooseNet_111 N bk r1 a2 a3 a7 x4.1 x5.1 x5.2)
  else
  (if x5.1 = a4 then
  (if a5 ≤ x4.1 then
  (let v6 : Int32 := a7 + 1
  bk r1 a2 a3 a4 a5 a6 v6 x5.2)
  else
  (F_S_chooseNet_111 N bk r1 a2 a3 a7 x4.1 x5.1 x5.2))
  else
  (let v7 : Int32 := a7 + 1
  bk r1 a2 a3 a4 a5 a6 v7 x5.2))))
  else
  (let v8 : Int32 := a7 + 1
  bk r1 a2 a3 a4 a5 a6 v8 x4.2))
  else
  (let v9 : Int32 := a7 + 1
  bk r1 a2 a3 a4 a5 a6 v9 x4.2)))
def F_S_chooseNet_0 (N : Nat) (bk : (Nat → Int32 → Int32 → Int32 → Int32 → Int32 → Int32 → MH → Option (Int32 × MH))) (r1 : Nat) (a2 : Int32) (h : MH) : Option (Int32 × MH) :=
  (f_Ledger_marksWithValues N (gI h (gR h 1 11) 1) h).bind (fun x1 =>
  F_S_chooseNet_27 N bk r1 a2 x1.1 ((-1)) 0 0 0 x1.2)
def L_S_chooseNet (N : Nat) : Nat → (Nat → Int32 → Int32 → Int32 → Int32 → Int32 → Int32 → MH → Option (Int32 × MH))
  | 0 => fun _ _ _ _ _ _ _ _ => none
  | n + 1 => F_S_chooseNet_27 N (L_S_chooseNet N n)
def f_S_chooseNet (N : Nat) (r1 : Nat) (a2 : Int32) (h : MH) : Option (Int32 × MH) := F_S_chooseNet_0 N (L_S_chooseNet N N) r1 a2 h
def C_S_chooseNet (N : Nat) : MC := (KDL, false, (fun _ => 0), jsB, (fun j => match Nat.beq j 23 with
    | true => w_Ledger_marksWithValues (f_Ledger_marksWithValues N)
    | false => match Nat.beq j 46 with
    | true => w_Ranks_of (f_Ranks_of N)
    | false => match Nat.beq j 90 with
    | true => w_Tray_sumOf (f_Tray_sumOf N)
    | false => fun _ _ => none), (fun _ _ _ => none), (fun _ _ _ => none), (fun _ _ _ => none))
def D_S_chooseNet (N : Nat) (n pc : Nat) (lv : ML) (st : List MV) (h : MH) : Option (Int32 × MH) :=
  match Nat.beq pc 0 with
  | true => (match lk lv 0, lk lv 1, lk lv 2, st with
    | some (.inr (.inr (0, 11, 1))), some (.inr (.inr (0, 9, r1))), some (.inl a2), [] => F_S_chooseNet_0 N (L_S_chooseNet N n) r1 a2 h
    | _, _, _, _ => none)
  | false => match Nat.beq pc 27 with
  | true => (match lk lv 0, lk lv 1, lk lv 2, lk lv 3, lk lv 4, lk lv 5, lk lv 6, lk lv 7, st with
    | some (.inr (.inr (0, 11, 1))), some (.inr (.inr (0, 9, r1))), some (.inl a2), some (.inl a3), some (.inl a4), some (.inl a5), some (.inl a6), some (.inl a7), [] => F_S_chooseNet_27 N (L_S_chooseNet N n) r1 a2 a3 a4 a5 a6 a7 h
    | _, _, _, _, _, _, _, _, _ => none)
  | false => match Nat.beq pc 111 with
  | true => (match lk lv 0, lk lv 1, lk lv 2, lk lv 3, lk lv 7, lk lv 8, lk lv 9, st with
    | some (.inr (.inr (0, 11, 1))), some (.inr (.inr (0, 9, r1))), some (.inl a2), some (.inl a3), some (.inl a7), some (.inl a8), some (.inl a9), [] => F_S_chooseNet_111 N (L_S_chooseNet N n) r1 a2 a3 a7 a8 a9 h
    | _, _, _, _, _, _, _, _ => none)
  | false => none
def B_S_chooseNet (N : Nat) (n pc : Nat) (lv : ML) (st : List MV) (h : MH) : Option (Int32 × MH) :=
  match Nat.beq pc 27 with
  | true => (match lk lv 0, lk lv 1, lk lv 2, lk lv 3, lk lv 4, lk lv 5, lk lv 6, lk lv 7, st with
    | some (.inr (.inr (0, 11, 1))), some (.inr (.inr (0, 9, r1))), some (.inl a2), some (.inl a3), some (.inl a4), some (.inl a5), some (.inl a6), some (.inl a7), [] => ((L_S_chooseNet N n)) r1 a2 a3 a4 a5 a6 a7 h
    | _, _, _, _, _, _, _, _, _ => none)
  | false => none
set_option maxRecDepth 1000000 in
theorem E_S_chooseNet_0 (N : Nat) (n : Nat) (r1 : Nat) (a2 : Int32) (h : MH) : seg (C_S_chooseNet N) 10 0 rI T_S_chooseNet [0, 27, 111] (fun q lv st h => match Nat.ble 1 q with
    | true => D_S_chooseNet N n q lv st h
    | false => B_S_chooseNet N n q lv st h) 400 true 0 [(0, .inr (.inr (0, 11, 1))), (1, .inr (.inr (0, 9, r1))), (2, .inl a2)] [] h = F_S_chooseNet_0 N (L_S_chooseNet N n) r1 a2 h := (rfl)
set_option maxRecDepth 1000000 in
theorem E_S_chooseNet_27 (N : Nat) (n : Nat) (r1 : Nat) (a2 : Int32) (a3 : Int32) (a4 : Int32) (a5 : Int32) (a6 : Int32) (a7 : Int32) (h : MH) : seg (C_S_chooseNet N) 10 0 rI T_S_chooseNet [0, 27, 111] (fun q lv st h => match Nat.ble 28 q with
    | true => D_S_chooseNet N n q lv st h
    | false => B_S_chooseNet N n q lv st h) 400 true 27 [(0, .inr (.inr (0, 11, 1))), (1, .inr (.inr (0, 9, r1))), (2, .inl a2), (3, .inl a3), (4, .inl a4), (5, .inl a5), (6, .inl a6), (7, .inl a7)] [] h = F_S_chooseNet_27 N (L_S_chooseNet N n) r1 a2 a3 a4 a5 a6 a7 h := (rfl)
set_option maxRecDepth 1000000 in
theorem E_S_chooseNet_111 (N : Nat) (n : Nat) (r1 : Nat) (a2 : Int32) (a3 : Int32) (a7 : Int32) (a8 : Int32) (a9 : Int32) (h : MH) : seg (C_S_chooseNet N) 10 0 rI T_S_chooseNet [0, 27, 111] (fun q lv st h => match Nat.ble 112 q with
    | true => D_S_chooseNet N n q lv st h
    | false => B_S_chooseNet N n q lv st h) 400 true 111 [(0, .inr (.inr (0, 11, 1))), (1, .inr (.inr (0, 9, r1))), (2, .inl a2), (3, .inl a3), (7, .inl a7), (8, .inl a8), (9, .inl a9)] [] h = F_S_chooseNet_111 N (L_S_chooseNet N n) r1 a2 a3 a7 a8 a9 h := (rfl)
set_option maxRecDepth 1000000 in
theorem chk_S_chooseNet : chkT 11 false prog_1_method_55_code T_S_chooseNet = true := by decide +kernel
theorem mc_S_chooseNet : mC 162 = prog_1_method_55_code := by rfl
theorem mx_S_chooseNet : mL 162 = 10 ∧ mR 162 = some .int ∧ mK 162 = 1 ∧ (mN 162).cls = cN 11 := by decide +kernel
theorem hD_S_chooseNet (N : Nat) {r : Int32 × MH} : ∀ n pc lv st h, D_S_chooseNet N n pc lv st h = some r → ∃ lv', (∀ q ∈ lv', q ∈ lv) ∧ seg (C_S_chooseNet N) 10 0 rI T_S_chooseNet [0, 27, 111] (fun q lv st h => match Nat.ble (pc + 1) q with
    | true => D_S_chooseNet N n q lv st h
    | false => B_S_chooseNet N n q lv st h) 400 true pc lv' st h = some r := by
  intro n pc lv st h hf
  unfold D_S_chooseNet at hf
  split at hf
  · rename_i hb
    have hb := Nat.eq_of_beq_eq_true hb
    subst hb
    split at hf
    · rename_i y0 y1 e0 e1 e2
      exact ⟨_, (sub_cons e0 (sub_cons e1 (sub_cons e2 sub_nil))), (E_S_chooseNet_0 N n _ _ h).trans hf⟩
    · cases hf
  · skip
    split at hf
    · rename_i hb
      have hb := Nat.eq_of_beq_eq_true hb
      subst hb
      split at hf
      · rename_i y0 y1 y2 y3 y4 y5 y6 e0 e1 e2 e3 e4 e5 e6 e7
        exact ⟨_, (sub_cons e0 (sub_cons e1 (sub_cons e2 (sub_cons e3 (sub_cons e4 (sub_cons e5 (sub_cons e6 (sub_cons e7 sub_nil)))))))), (E_S_chooseNet_27 N n _ _ _ _ _ _ _ h).trans hf⟩
      · cases hf
    · skip
      split at hf
      · rename_i hb
        have hb := Nat.eq_of_beq_eq_true hb
        subst hb
        split at hf
        · rename_i y0 y1 y2 y3 y4 y5 e0 e1 e2 e3 e4 e5 e6
          exact ⟨_, (sub_cons e0 (sub_cons e1 (sub_cons e2 (sub_cons e3 (sub_cons e4 (sub_cons e5 (sub_cons e6 sub_nil))))))), (E_S_chooseNet_111 N n _ _ _ _ _ _ h).trans hf⟩
        · cases hf
      · skip
        cases hf
theorem hM_S_chooseNet (N : Nat) {r : Int32 × MH} : ∀ n pc lv st h, D_S_chooseNet N n pc lv st h = some r → pc < 144 := by
  intro n pc lv st h hf
  unfold D_S_chooseNet at hf
  split at hf
  · rename_i hb
    rw [Nat.eq_of_beq_eq_true hb]
    decide
  · skip
    split at hf
    · rename_i hb
      rw [Nat.eq_of_beq_eq_true hb]
      decide
    · skip
      split at hf
      · rename_i hb
        rw [Nat.eq_of_beq_eq_true hb]
        decide
      · skip
        cases hf
theorem hB_S_chooseNet (N : Nat) {r : Int32 × MH} : ∀ n pc lv st h, B_S_chooseNet N n pc lv st h = some r → ∃ k, n = k + 1 ∧ D_S_chooseNet N k pc lv st h = some r := by
  intro n pc lv st h hf
  unfold B_S_chooseNet at hf
  split at hf
  · rename_i hb
    have hb := Nat.eq_of_beq_eq_true hb
    subst hb
    cases n with
    | zero =>
      split at hf
      · cases hf
      · cases hf
    | succ k =>
      refine ⟨k, rfl, ?_⟩
      exact hf
  · skip
    cases hf
theorem s_S_chooseNet {l : Launch} {E : EV} {N : Nat} {as : List MV} {h : MH} {r : Int32 × MH} (hf : w_S_chooseNet (f_S_chooseNet N) as h = some r) : SndM l E false 3 162 as h (some (.inl r.1)) r.2 := by
  unfold w_S_chooseNet at hf
  split at hf
  · obtain ⟨m1, m2, m3, m4⟩ := mx_S_chooseNet
    refine snd_of (C := C_S_chooseNet N) (own := 11) (rz := 0) (lim := 115) rI_eq m2 m4 pl_162 (TB_in _ cw_162 rfl) ⟨(fun _ => ⟨_, _, _, _, _, _, rfl, rfl, by rw [m4]; rfl⟩), (fun z => by rw [m3] at z; cases z)⟩ (fun z => by cases z) KDL_take rfl rfl (fun z => by cases z) (fun z => by cases z) (fun _ => rfl) (by rw [m1]; exact Nat.le_of_ble_eq_true rfl)
      (fun j as h x z => by
      dsimp only [C_S_chooseNet] at z
      cases hb : Nat.beq j 23 with
      | true =>
        have hb := Nat.eq_of_beq_eq_true hb
        subst hb
        exact ⟨1, by decide, (fun z => by cases z), s_Ledger_marksWithValues z⟩
      | false =>
        rw [hb] at z
        dsimp only at z
        cases hb : Nat.beq j 46 with
        | true =>
          have hb := Nat.eq_of_beq_eq_true hb
          subst hb
          exact ⟨2, by decide, (fun z => by cases z), s_Ranks_of z⟩
        | false =>
          rw [hb] at z
          dsimp only at z
          cases hb : Nat.beq j 90 with
          | true =>
            have hb := Nat.eq_of_beq_eq_true hb
            subst hb
            exact ⟨2, by decide, (fun z => by cases z), s_Tray_sumOf z⟩
          | false =>
            rw [hb] at z
            dsimp only at z
            cases z)
      (fun _ _ _ _ z => by cases z)
      (fun _ _ _ _ z => by cases z)
      (fun _ _ _ _ z => by cases z)
      (fun p e R s m args below meth c Q n0 F hret => ?_)
    rw [m1] at F hret ⊢
    rw [mc_S_chooseNet] at F hret
    exact cuts_s (K := 400) (M := 144) (D := D_S_chooseNet N) (B := B_S_chooseNet N) F hret (chkT_ok chk_S_chooseNet) (hM_S_chooseNet N) (hB_S_chooseNet N) (hD_S_chooseNet N) N 0 _ _ _ hf
  · cases hf
def T_S_net : List (List (Option RW)) := [
  [some (.iload_n 1, 1, [1], 0, 0), some (.invokestatic 105, 3, [2, 152, 1, 0], 0, 0), none, none, some (.ifCond .eq 14, 3, [18], 0, 0), none, none, some (.iload_n 2, 1, [2], 0, 0), some (.iconst 0, 1, [], 0, 0), some (.sipush 10000, 3, [], 10000, 0), none, none, some (.invokestatic 207, 3, [2, 150, 3, 0], 0, 0), none, none, some (.ifCond .ne 9, 3, [24], 0, 0), none, none, some (.aload_n 0, 1, [0], 0, 0), some (.iconst 1, 1, [], 1, 0), some (.invokevirtual 128, 3, [0, 146, 2, 0], 0, 0), none, none, some (.ireturn, 1, [], 0, 0), some (.aload_n 0, 1, [0], 0, 0), some (.getfield 11, 3, [11, 0, 2, 5, 4, 1], 0, 0), none, none, some (.iload_n 1, 1, [1], 0, 0), some (.aaload, 1, [], 0, 0), some (.astore_n 3, 1, [3], 0, 0), some (.aload_n 3, 1, [3], 0, 0)],
  [some (.invokevirtual 136, 3, [1, 84, 1, 0], 0, 0), none, none, some (.ifCond .eq 9, 3, [44], 0, 0), none, none, some (.aload_n 0, 1, [0], 0, 0), some (.iconst 2, 1, [], 2, 0), some (.invokevirtual 128, 3, [0, 146, 2, 0], 0, 0), none, none, some (.ireturn, 1, [], 0, 0), some (.aload_n 3, 1, [3], 0, 0), some (.getfield 355, 3, [9, 2, 0], 0, 0), none, none, some (.aload_n 0, 1, [0], 0, 0), some (.getfield 81, 3, [11, 11, 3, 0, 2], 0, 0), none, none, some (.getfield 192, 3, [2, 1, 0], 0, 0), none, none, some (.if_icmp .ge 9, 3, [64], 0, 0), none, none, some (.aload_n 0, 1, [0], 0, 0), some (.iconst 3, 1, [], 3, 0), some (.invokevirtual 128, 3, [0, 146, 2, 0], 0, 0), none, none, some (.ireturn, 1, [], 0, 0)],
  [some (.aload_n 3, 1, [3], 0, 0), some (.aload_n 0, 1, [0], 0, 0), some (.getfield 81, 3, [11, 11, 3, 0, 2], 0, 0), none, none, some (.getfield 192, 3, [2, 1, 0], 0, 0), none, none, some (.iconst 0, 1, [], 0, 0), some (.sipush 1000, 3, [], 1000, 0), none, none, some (.invokevirtual 356, 3, [1, 89, 4, 0], 0, 0), none, none, some (.ifCond .ne 9, 3, [88], 0, 0), none, none, some (.aload_n 0, 1, [0], 0, 0), some (.iconst 1, 1, [], 1, 0), some (.invokevirtual 128, 3, [0, 146, 2, 0], 0, 0), none, none, some (.ireturn, 1, [], 0, 0), some (.aload_n 0, 1, [0], 0, 0), some (.aload_n 0, 1, [0], 0, 0), some (.aload_n 3, 1, [3], 0, 0), some (.iload_n 2, 1, [2], 0, 0), some (.invokevirtual 359, 3, [0, 162, 3, 0], 0, 0), none, none, some (.invokevirtual 183, 3, [0, 144, 2, 0], 0, 0)],
  [none, none, some (.ireturn, 1, [], 0, 0)]]
def f_S_net (N : Nat) (a1 : Int32) (a2 : Int32) (h : MH) : Option (Int32 × MH) :=
  (f_S_isTray N a1 h).bind (fun x1 =>
  if x1.1 = 0 then
  ((f_S_refuse N 1 x1.2).bind (fun x2 =>
  some (x2.1, x2.2)))
  else
  ((f_S_isWithin N a2 0 10000 x1.2).bind (fun x3 =>
  if x3.1 = 0 then
  ((f_S_refuse N 1 x3.2).bind (fun x4 =>
  some (x4.1, x4.2)))
  else
  (if inB a1 4 = true then
  ((f_Tray_isMissing N (gR x3.2 2 (iN a1)) x3.2).bind (fun x5 =>
  if x5.1 = 0 then
  (if (gI x5.2 (gR x5.2 1 11) 1) ≤ (gI x5.2 (gR x3.2 2 (iN a1)) 2) then
  ((f_Tray_allWithin N (gR x3.2 2 (iN a1)) (gI x5.2 (gR x5.2 1 11) 1) 0 1000 x5.2).bind (fun x6 =>
  if x6.1 = 0 then
  ((f_S_refuse N 1 x6.2).bind (fun x7 =>
  some (x7.1, x7.2)))
  else
  ((f_S_chooseNet N (gR x3.2 2 (iN a1)) a2 x6.2).bind (fun x8 =>
  (f_S_answer N x8.1 x8.2).bind (fun x9 =>
  some (x9.1, x9.2))))))
  else
  ((f_S_refuse N 3 x5.2).bind (fun x10 =>
  some (x10.1, x10.2))))
  else
  ((f_S_refuse N 2 x5.2).bind (fun x11 =>
  some (x11.1, x11.2)))))
  else none))))
def C_S_net (N : Nat) : MC := (KDL, false, (fun _ => 0), jsB, (fun j => match Nat.beq j 84 with
    | true => w_Tray_isMissing (f_Tray_isMissing N)
    | false => match Nat.beq j 89 with
    | true => w_Tray_allWithin (f_Tray_allWithin N)
    | false => match Nat.beq j 144 with
    | true => w_S_answer (f_S_answer N)
    | false => match Nat.beq j 146 with
    | true => w_S_refuse (f_S_refuse N)
    | false => match Nat.beq j 150 with
    | true => w_S_isWithin (f_S_isWithin N)
    | false => match Nat.beq j 152 with
    | true => w_S_isTray (f_S_isTray N)
    | false => match Nat.beq j 162 with
    | true => w_S_chooseNet (f_S_chooseNet N)
    | false => fun _ _ => none), (fun _ _ _ => none), (fun _ _ _ => none), (fun _ _ _ => none))
def D_S_net (N : Nat) (n pc : Nat) (lv : ML) (st : List MV) (h : MH) : Option (Int32 × MH) :=
  match Nat.beq pc 0 with
  | true => (match lk lv 0, lk lv 1, lk lv 2, st with
    | some (.inr (.inr (0, 11, 1))), some (.inl a1), some (.inl a2), [] => f_S_net N a1 a2 h
    | _, _, _, _ => none)
  | false => none
set_option maxRecDepth 1000000 in
theorem E_S_net_0 (N : Nat) (n : Nat) (a1 : Int32) (a2 : Int32) (h : MH) : seg (C_S_net N) 4 0 rI T_S_net [0] (fun q lv st h => match Nat.ble 1 q with
    | true => D_S_net N n q lv st h
    | false => none) 400 true 0 [(0, .inr (.inr (0, 11, 1))), (1, .inl a1), (2, .inl a2)] [] h = f_S_net N a1 a2 h := (rfl)
set_option maxRecDepth 1000000 in
theorem chk_S_net : chkT 11 false prog_1_method_33_code T_S_net = true := by decide +kernel
theorem mc_S_net : mC 140 = prog_1_method_33_code := by rfl
theorem mx_S_net : mL 140 = 4 ∧ mR 140 = some .int ∧ mK 140 = 1 ∧ (mN 140).cls = cN 11 := by decide +kernel
theorem hD_S_net (N : Nat) {r : Int32 × MH} : ∀ n pc lv st h, D_S_net N n pc lv st h = some r → ∃ lv', (∀ q ∈ lv', q ∈ lv) ∧ seg (C_S_net N) 4 0 rI T_S_net [0] (fun q lv st h => match Nat.ble (pc + 1) q with
    | true => D_S_net N n q lv st h
    | false => none) 400 true pc lv' st h = some r := by
  intro n pc lv st h hf
  unfold D_S_net at hf
  split at hf
  · rename_i hb
    have hb := Nat.eq_of_beq_eq_true hb
    subst hb
    split at hf
    · rename_i y0 y1 e0 e1 e2
      exact ⟨_, (sub_cons e0 (sub_cons e1 (sub_cons e2 sub_nil))), (E_S_net_0 N n _ _ h).trans hf⟩
    · cases hf
  · skip
    cases hf
theorem hM_S_net (N : Nat) {r : Int32 × MH} : ∀ n pc lv st h, D_S_net N n pc lv st h = some r → pc < 99 := by
  intro n pc lv st h hf
  unfold D_S_net at hf
  split at hf
  · rename_i hb
    rw [Nat.eq_of_beq_eq_true hb]
    decide
  · skip
    cases hf
theorem s_S_net {l : Launch} {E : EV} {N : Nat} {as : List MV} {h : MH} {r : Int32 × MH} (hf : w_S_net (f_S_net N) as h = some r) : SndM l E false 4 140 as h (some (.inl r.1)) r.2 := by
  unfold w_S_net at hf
  split at hf
  · obtain ⟨m1, m2, m3, m4⟩ := mx_S_net
    refine snd_of (C := C_S_net N) (own := 11) (rz := 0) (lim := 115) rI_eq m2 m4 pl_140 (TB_in _ cw_140 rfl) ⟨(fun _ => ⟨_, _, _, _, _, _, rfl, rfl, by rw [m4]; rfl⟩), (fun z => by rw [m3] at z; cases z)⟩ (fun z => by cases z) KDL_take rfl rfl (fun z => by cases z) (fun z => by cases z) (fun _ => rfl) (by rw [m1]; exact Nat.le_of_ble_eq_true rfl)
      (fun j as h x z => by
      dsimp only [C_S_net] at z
      cases hb : Nat.beq j 84 with
      | true =>
        have hb := Nat.eq_of_beq_eq_true hb
        subst hb
        exact ⟨0, by decide, (fun z => by cases z), s_Tray_isMissing z⟩
      | false =>
        rw [hb] at z
        dsimp only at z
        cases hb : Nat.beq j 89 with
        | true =>
          have hb := Nat.eq_of_beq_eq_true hb
          subst hb
          exact ⟨2, by decide, (fun z => by cases z), s_Tray_allWithin z⟩
        | false =>
          rw [hb] at z
          dsimp only at z
          cases hb : Nat.beq j 144 with
          | true =>
            have hb := Nat.eq_of_beq_eq_true hb
            subst hb
            exact ⟨0, by decide, (fun z => by cases z), s_S_answer z⟩
          | false =>
            rw [hb] at z
            dsimp only at z
            cases hb : Nat.beq j 146 with
            | true =>
              have hb := Nat.eq_of_beq_eq_true hb
              subst hb
              exact ⟨0, by decide, (fun z => by cases z), s_S_refuse z⟩
            | false =>
              rw [hb] at z
              dsimp only at z
              cases hb : Nat.beq j 150 with
              | true =>
                have hb := Nat.eq_of_beq_eq_true hb
                subst hb
                exact ⟨0, by decide, (fun z => by cases z), s_S_isWithin z⟩
              | false =>
                rw [hb] at z
                dsimp only at z
                cases hb : Nat.beq j 152 with
                | true =>
                  have hb := Nat.eq_of_beq_eq_true hb
                  subst hb
                  exact ⟨1, by decide, (fun z => by cases z), s_S_isTray z⟩
                | false =>
                  rw [hb] at z
                  dsimp only at z
                  cases hb : Nat.beq j 162 with
                  | true =>
                    have hb := Nat.eq_of_beq_eq_true hb
                    subst hb
                    exact ⟨3, by decide, (fun z => by cases z), s_S_chooseNet z⟩
                  | false =>
                    rw [hb] at z
                    dsimp only at z
                    cases z)
      (fun _ _ _ _ z => by cases z)
      (fun _ _ _ _ z => by cases z)
      (fun _ _ _ _ z => by cases z)
      (fun p e R s m args below meth c Q n0 F hret => ?_)
    rw [m1] at F hret ⊢
    rw [mc_S_net] at F hret
    exact cuts_s (K := 400) (M := 99) (D := D_S_net N) (B := fun _ _ _ _ _ => none) F hret (chkT_ok chk_S_net) (hM_S_net N) (fun _ _ _ _ _ z => by cases z) (hD_S_net N) N 0 _ _ _ hf
  · cases hf
def T_S_netTold : List (List (Option RW)) := [
  [some (.iload_n 1, 1, [1], 0, 0), some (.iconst 2, 1, [], 2, 0), some (.invokestatic 186, 3, [2, 151, 2, 0], 0, 0), none, none, some (.ifCond .ne 9, 3, [14], 0, 0), none, none, some (.aload_n 0, 1, [0], 0, 0), some (.iconst 1, 1, [], 1, 0), some (.invokevirtual 128, 3, [0, 146, 2, 0], 0, 0), none, none, some (.ireturn, 1, [], 0, 0), some (.aload_n 0, 1, [0], 0, 0), some (.getfield 98, 3, [11, 16, 0], 0, 0), none, none, some (.ifCond .ge 10, 3, [28], 0, 0), none, none, some (.aload_n 0, 1, [0], 0, 0), some (.bipush 6, 2, [], 6, 0), none, some (.invokevirtual 128, 3, [0, 146, 2, 0], 0, 0), none, none, some (.ireturn, 1, [], 0, 0), some (.aload_n 0, 1, [0], 0, 0), some (.iload_n 1, 1, [1], 0, 0), some (.ifCond .ne 10, 3, [40], 0, 0), none],
  [none, some (.aload_n 0, 1, [0], 0, 0), some (.getfield 98, 3, [11, 16, 0], 0, 0), none, none, some (.goto 7, 3, [44], 0, 0), none, none, some (.aload_n 0, 1, [0], 0, 0), some (.getfield 101, 3, [11, 17, 0], 0, 0), none, none, some (.invokevirtual 183, 3, [0, 144, 2, 0], 0, 0), none, none, some (.ireturn, 1, [], 0, 0)]]
def f_S_netTold (N : Nat) (a1 : Int32) (h : MH) : Option (Int32 × MH) :=
  (f_S_isOneOf N a1 2 h).bind (fun x1 =>
  if x1.1 = 0 then
  ((f_S_refuse N 1 x1.2).bind (fun x2 =>
  some (x2.1, x2.2)))
  else
  (if 0 ≤ (gI x1.2 1 16) then
  (if a1 = 0 then
  ((f_S_answer N (gI x1.2 1 16) x1.2).bind (fun x3 =>
  some (x3.1, x3.2)))
  else
  ((f_S_answer N (gI x1.2 1 17) x1.2).bind (fun x4 =>
  some (x4.1, x4.2))))
  else
  ((f_S_refuse N 6 x1.2).bind (fun x5 =>
  some (x5.1, x5.2)))))
def C_S_netTold (N : Nat) : MC := (KDL, false, (fun _ => 0), jsB, (fun j => match Nat.beq j 144 with
    | true => w_S_answer (f_S_answer N)
    | false => match Nat.beq j 146 with
    | true => w_S_refuse (f_S_refuse N)
    | false => match Nat.beq j 151 with
    | true => w_S_isOneOf (f_S_isOneOf N)
    | false => fun _ _ => none), (fun _ _ _ => none), (fun _ _ _ => none), (fun _ _ _ => none))
def D_S_netTold (N : Nat) (n pc : Nat) (lv : ML) (st : List MV) (h : MH) : Option (Int32 × MH) :=
  match Nat.beq pc 0 with
  | true => (match lk lv 0, lk lv 1, st with
    | some (.inr (.inr (0, 11, 1))), some (.inl a1), [] => f_S_netTold N a1 h
    | _, _, _ => none)
  | false => none
set_option maxRecDepth 1000000 in
theorem E_S_netTold_0 (N : Nat) (n : Nat) (a1 : Int32) (h : MH) : seg (C_S_netTold N) 2 0 rI T_S_netTold [0] (fun q lv st h => match Nat.ble 1 q with
    | true => D_S_netTold N n q lv st h
    | false => none) 400 true 0 [(0, .inr (.inr (0, 11, 1))), (1, .inl a1)] [] h = f_S_netTold N a1 h := (rfl)
set_option maxRecDepth 1000000 in
theorem chk_S_netTold : chkT 11 false prog_1_method_34_code T_S_netTold = true := by decide +kernel
theorem mc_S_netTold : mC 141 = prog_1_method_34_code := by rfl
theorem mx_S_netTold : mL 141 = 2 ∧ mR 141 = some .int ∧ mK 141 = 1 ∧ (mN 141).cls = cN 11 := by decide +kernel
theorem hD_S_netTold (N : Nat) {r : Int32 × MH} : ∀ n pc lv st h, D_S_netTold N n pc lv st h = some r → ∃ lv', (∀ q ∈ lv', q ∈ lv) ∧ seg (C_S_netTold N) 2 0 rI T_S_netTold [0] (fun q lv st h => match Nat.ble (pc + 1) q with
    | true => D_S_netTold N n q lv st h
    | false => none) 400 true pc lv' st h = some r := by
  intro n pc lv st h hf
  unfold D_S_netTold at hf
  split at hf
  · rename_i hb
    have hb := Nat.eq_of_beq_eq_true hb
    subst hb
    split at hf
    · rename_i y0 e0 e1
      exact ⟨_, (sub_cons e0 (sub_cons e1 sub_nil)), (E_S_netTold_0 N n _ h).trans hf⟩
    · cases hf
  · skip
    cases hf
theorem hM_S_netTold (N : Nat) {r : Int32 × MH} : ∀ n pc lv st h, D_S_netTold N n pc lv st h = some r → pc < 48 := by
  intro n pc lv st h hf
  unfold D_S_netTold at hf
  split at hf
  · rename_i hb
    rw [Nat.eq_of_beq_eq_true hb]
    decide
  · skip
    cases hf
theorem s_S_netTold {l : Launch} {E : EV} {N : Nat} {as : List MV} {h : MH} {r : Int32 × MH} (hf : w_S_netTold (f_S_netTold N) as h = some r) : SndM l E false 1 141 as h (some (.inl r.1)) r.2 := by
  unfold w_S_netTold at hf
  split at hf
  · obtain ⟨m1, m2, m3, m4⟩ := mx_S_netTold
    refine snd_of (C := C_S_netTold N) (own := 11) (rz := 0) (lim := 115) rI_eq m2 m4 pl_141 (TB_in _ cw_141 rfl) ⟨(fun _ => ⟨_, _, _, _, _, _, rfl, rfl, by rw [m4]; rfl⟩), (fun z => by rw [m3] at z; cases z)⟩ (fun z => by cases z) KDL_take rfl rfl (fun z => by cases z) (fun z => by cases z) (fun _ => rfl) (by rw [m1]; exact Nat.le_of_ble_eq_true rfl)
      (fun j as h x z => by
      dsimp only [C_S_netTold] at z
      cases hb : Nat.beq j 144 with
      | true =>
        have hb := Nat.eq_of_beq_eq_true hb
        subst hb
        exact ⟨0, by decide, (fun z => by cases z), s_S_answer z⟩
      | false =>
        rw [hb] at z
        dsimp only at z
        cases hb : Nat.beq j 146 with
        | true =>
          have hb := Nat.eq_of_beq_eq_true hb
          subst hb
          exact ⟨0, by decide, (fun z => by cases z), s_S_refuse z⟩
        | false =>
          rw [hb] at z
          dsimp only at z
          cases hb : Nat.beq j 151 with
          | true =>
            have hb := Nat.eq_of_beq_eq_true hb
            subst hb
            exact ⟨0, by decide, (fun z => by cases z), s_S_isOneOf z⟩
          | false =>
            rw [hb] at z
            dsimp only at z
            cases z)
      (fun _ _ _ _ z => by cases z)
      (fun _ _ _ _ z => by cases z)
      (fun _ _ _ _ z => by cases z)
      (fun p e R s m args below meth c Q n0 F hret => ?_)
    rw [m1] at F hret ⊢
    rw [mc_S_netTold] at F hret
    exact cuts_s (K := 400) (M := 48) (D := D_S_netTold N) (B := fun _ _ _ _ _ => none) F hret (chkT_ok chk_S_netTold) (hM_S_netTold N) (fun _ _ _ _ _ z => by cases z) (hD_S_netTold N) N 0 _ _ _ hf
  · cases hf
def T_S_few : List (List (Option RW)) := [
  [some (.iload_n 1, 1, [1], 0, 0), some (.invokestatic 105, 3, [2, 152, 1, 0], 0, 0), none, none, some (.ifCond .eq 42, 3, [46], 0, 0), none, none, some (.iload_n 2, 1, [2], 0, 0), some (.iconst 1, 1, [], 1, 0), some (.bipush 8, 2, [], 8, 0), none, some (.invokestatic 207, 3, [2, 150, 3, 0], 0, 0), none, none, some (.ifCond .eq 32, 3, [46], 0, 0), none, none, some (.iload_n 3, 1, [3], 0, 0), some (.iconst 0, 1, [], 0, 0), some (.sipush 2000, 3, [], 2000, 0), none, none, some (.invokestatic 207, 3, [2, 150, 3, 0], 0, 0), none, none, some (.ifCond .eq 21, 3, [46], 0, 0), none, none, some (.iload 4, 2, [4], 0, 0), none, some (.iconst 0, 1, [], 0, 0), some (.sipush 2000, 3, [], 2000, 0)],
  [none, none, some (.invokestatic 207, 3, [2, 150, 3, 0], 0, 0), none, none, some (.ifCond .eq 9, 3, [46], 0, 0), none, none, some (.iload 4, 2, [4], 0, 0), none, some (.iload_n 3, 1, [3], 0, 0), some (.if_icmp .ge 9, 3, [52], 0, 0), none, none, some (.aload_n 0, 1, [0], 0, 0), some (.iconst 1, 1, [], 1, 0), some (.invokevirtual 128, 3, [0, 146, 2, 0], 0, 0), none, none, some (.ireturn, 1, [], 0, 0), some (.aload_n 0, 1, [0], 0, 0), some (.getfield 11, 3, [11, 0, 2, 5, 4, 1], 0, 0), none, none, some (.iload_n 1, 1, [1], 0, 0), some (.aaload, 1, [], 0, 0), some (.astore 5, 2, [5], 0, 0), none, some (.aload 5, 2, [5], 0, 0), none, some (.invokevirtual 136, 3, [1, 84, 1, 0], 0, 0), none],
  [none, some (.ifCond .eq 9, 3, [74], 0, 0), none, none, some (.aload_n 0, 1, [0], 0, 0), some (.iconst 2, 1, [], 2, 0), some (.invokevirtual 128, 3, [0, 146, 2, 0], 0, 0), none, none, some (.ireturn, 1, [], 0, 0), some (.aload 5, 2, [5], 0, 0), none, some (.getfield 355, 3, [9, 2, 0], 0, 0), none, none, some (.iload_n 2, 1, [2], 0, 0), some (.if_icmp .ge 9, 3, [89], 0, 0), none, none, some (.aload_n 0, 1, [0], 0, 0), some (.iconst 3, 1, [], 3, 0), some (.invokevirtual 128, 3, [0, 146, 2, 0], 0, 0), none, none, some (.ireturn, 1, [], 0, 0), some (.aload 5, 2, [5], 0, 0), none, some (.iload_n 2, 1, [2], 0, 0), some (.iconst 1, 1, [], 1, 0), some (.bipush 99, 2, [], 99, 0), none, some (.invokevirtual 356, 3, [1, 89, 4, 0], 0, 0)],
  [none, none, some (.ifCond .ne 9, 3, [107], 0, 0), none, none, some (.aload_n 0, 1, [0], 0, 0), some (.iconst 1, 1, [], 1, 0), some (.invokevirtual 128, 3, [0, 146, 2, 0], 0, 0), none, none, some (.ireturn, 1, [], 0, 0), some (.aload_n 0, 1, [0], 0, 0), some (.getfield 67, 3, [11, 8, 2, 0, 1, 49], 0, 0), none, none, some (.aload 5, 2, [5], 0, 0), none, some (.iload_n 2, 1, [2], 0, 0), some (.iload_n 3, 1, [3], 0, 0), some (.iload 4, 2, [4], 0, 0), none, some (.invokevirtual 363, 3, [1, 9, 5, 0], 0, 0), none, none, some (.istore 6, 2, [6], 0, 0), none, some (.iload 6, 2, [6], 0, 0), none, some (.ifCond .ge 12, 3, [136], 0, 0), none, none, some (.aload_n 0, 1, [0], 0, 0)],
  [some (.bipush 6, 2, [], 6, 0), none, some (.invokevirtual 128, 3, [0, 146, 2, 0], 0, 0), none, none, some (.goto 9, 3, [142], 0, 0), none, none, some (.aload_n 0, 1, [0], 0, 0), some (.iload 6, 2, [6], 0, 0), none, some (.invokevirtual 183, 3, [0, 144, 2, 0], 0, 0), none, none, some (.ireturn, 1, [], 0, 0)]]
def f_S_few (N : Nat) (a1 : Int32) (a2 : Int32) (a3 : Int32) (a4 : Int32) (h : MH) : Option (Int32 × MH) :=
  (f_S_isTray N a1 h).bind (fun x1 =>
  if x1.1 = 0 then
  ((f_S_refuse N 1 x1.2).bind (fun x2 =>
  some (x2.1, x2.2)))
  else
  ((f_S_isWithin N a2 1 8 x1.2).bind (fun x3 =>
  if x3.1 = 0 then
  ((f_S_refuse N 1 x3.2).bind (fun x4 =>
  some (x4.1, x4.2)))
  else
  ((f_S_isWithin N a3 0 2000 x3.2).bind (fun x5 =>
  if x5.1 = 0 then
  ((f_S_refuse N 1 x5.2).bind (fun x6 =>
  some (x6.1, x6.2)))
  else
  ((f_S_isWithin N a4 0 2000 x5.2).bind (fun x7 =>
  if x7.1 = 0 then
  ((f_S_refuse N 1 x7.2).bind (fun x8 =>
  some (x8.1, x8.2)))
  else
  (if a3 ≤ a4 then
  (if inB a1 4 = true then
  ((f_Tray_isMissing N (gR x7.2 2 (iN a1)) x7.2).bind (fun x9 =>
  if x9.1 = 0 then
  (if a2 ≤ (gI x9.2 (gR x7.2 2 (iN a1)) 2) then
  ((f_Tray_allWithin N (gR x7.2 2 (iN a1)) a2 1 99 x9.2).bind (fun x10 =>
  if x10.1 = 0 then
  ((f_S_refuse N 1 x10.2).bind (fun x11 =>
  some (x11.1, x11.2)))
  else
  ((f_Few_find N (gR x7.2 2 (iN a1)) a2 a3 a4 x10.2).bind (fun x12 =>
  if 0 ≤ x12.1 then
  ((f_S_answer N x12.1 x12.2).bind (fun x13 =>
  some (x13.1, x13.2)))
  else
  ((f_S_refuse N 6 x12.2).bind (fun x14 =>
  some (x14.1, x14.2)))))))
  else
  ((f_S_refuse N 3 x9.2).bind (fun x15 =>
  some (x15.1, x15.2))))
  else
  ((f_S_refuse N 2 x9.2).bind (fun x16 =>
  some (x16.1, x16.2)))))
  else none)
  else
  ((f_S_refuse N 1 x7.2).bind (fun x17 =>
  some (x17.1, x17.2)))))))))))
def C_S_few (N : Nat) : MC := (KDL, false, (fun _ => 0), jsB, (fun j => match Nat.beq j 9 with
    | true => w_Few_find (f_Few_find N)
    | false => match Nat.beq j 84 with
    | true => w_Tray_isMissing (f_Tray_isMissing N)
    | false => match Nat.beq j 89 with
    | true => w_Tray_allWithin (f_Tray_allWithin N)
    | false => match Nat.beq j 144 with
    | true => w_S_answer (f_S_answer N)
    | false => match Nat.beq j 146 with
    | true => w_S_refuse (f_S_refuse N)
    | false => match Nat.beq j 150 with
    | true => w_S_isWithin (f_S_isWithin N)
    | false => match Nat.beq j 152 with
    | true => w_S_isTray (f_S_isTray N)
    | false => fun _ _ => none), (fun _ _ _ => none), (fun _ _ _ => none), (fun _ _ _ => none))
def D_S_few (N : Nat) (n pc : Nat) (lv : ML) (st : List MV) (h : MH) : Option (Int32 × MH) :=
  match Nat.beq pc 0 with
  | true => (match lk lv 0, lk lv 1, lk lv 2, lk lv 3, lk lv 4, st with
    | some (.inr (.inr (0, 11, 1))), some (.inl a1), some (.inl a2), some (.inl a3), some (.inl a4), [] => f_S_few N a1 a2 a3 a4 h
    | _, _, _, _, _, _ => none)
  | false => none
set_option maxRecDepth 1000000 in
theorem E_S_few_0 (N : Nat) (n : Nat) (a1 : Int32) (a2 : Int32) (a3 : Int32) (a4 : Int32) (h : MH) : seg (C_S_few N) 7 0 rI T_S_few [0] (fun q lv st h => match Nat.ble 1 q with
    | true => D_S_few N n q lv st h
    | false => none) 400 true 0 [(0, .inr (.inr (0, 11, 1))), (1, .inl a1), (2, .inl a2), (3, .inl a3), (4, .inl a4)] [] h = f_S_few N a1 a2 a3 a4 h := (rfl)
set_option maxRecDepth 1000000 in
theorem chk_S_few : chkT 11 false prog_1_method_35_code T_S_few = true := by decide +kernel
theorem mc_S_few : mC 142 = prog_1_method_35_code := by rfl
theorem mx_S_few : mL 142 = 7 ∧ mR 142 = some .int ∧ mK 142 = 1 ∧ (mN 142).cls = cN 11 := by decide +kernel
theorem hD_S_few (N : Nat) {r : Int32 × MH} : ∀ n pc lv st h, D_S_few N n pc lv st h = some r → ∃ lv', (∀ q ∈ lv', q ∈ lv) ∧ seg (C_S_few N) 7 0 rI T_S_few [0] (fun q lv st h => match Nat.ble (pc + 1) q with
    | true => D_S_few N n q lv st h
    | false => none) 400 true pc lv' st h = some r := by
  intro n pc lv st h hf
  unfold D_S_few at hf
  split at hf
  · rename_i hb
    have hb := Nat.eq_of_beq_eq_true hb
    subst hb
    split at hf
    · rename_i y0 y1 y2 y3 e0 e1 e2 e3 e4
      exact ⟨_, (sub_cons e0 (sub_cons e1 (sub_cons e2 (sub_cons e3 (sub_cons e4 sub_nil))))), (E_S_few_0 N n _ _ _ _ h).trans hf⟩
    · cases hf
  · skip
    cases hf
theorem hM_S_few (N : Nat) {r : Int32 × MH} : ∀ n pc lv st h, D_S_few N n pc lv st h = some r → pc < 143 := by
  intro n pc lv st h hf
  unfold D_S_few at hf
  split at hf
  · rename_i hb
    rw [Nat.eq_of_beq_eq_true hb]
    decide
  · skip
    cases hf
theorem s_S_few {l : Launch} {E : EV} {N : Nat} {as : List MV} {h : MH} {r : Int32 × MH} (hf : w_S_few (f_S_few N) as h = some r) : SndM l E false 4 142 as h (some (.inl r.1)) r.2 := by
  unfold w_S_few at hf
  split at hf
  · obtain ⟨m1, m2, m3, m4⟩ := mx_S_few
    refine snd_of (C := C_S_few N) (own := 11) (rz := 0) (lim := 115) rI_eq m2 m4 pl_142 (TB_in _ cw_142 rfl) ⟨(fun _ => ⟨_, _, _, _, _, _, rfl, rfl, by rw [m4]; rfl⟩), (fun z => by rw [m3] at z; cases z)⟩ (fun z => by cases z) KDL_take rfl rfl (fun z => by cases z) (fun z => by cases z) (fun _ => rfl) (by rw [m1]; exact Nat.le_of_ble_eq_true rfl)
      (fun j as h x z => by
      dsimp only [C_S_few] at z
      cases hb : Nat.beq j 9 with
      | true =>
        have hb := Nat.eq_of_beq_eq_true hb
        subst hb
        exact ⟨3, by decide, (fun z => by cases z), s_Few_find z⟩
      | false =>
        rw [hb] at z
        dsimp only at z
        cases hb : Nat.beq j 84 with
        | true =>
          have hb := Nat.eq_of_beq_eq_true hb
          subst hb
          exact ⟨0, by decide, (fun z => by cases z), s_Tray_isMissing z⟩
        | false =>
          rw [hb] at z
          dsimp only at z
          cases hb : Nat.beq j 89 with
          | true =>
            have hb := Nat.eq_of_beq_eq_true hb
            subst hb
            exact ⟨2, by decide, (fun z => by cases z), s_Tray_allWithin z⟩
          | false =>
            rw [hb] at z
            dsimp only at z
            cases hb : Nat.beq j 144 with
            | true =>
              have hb := Nat.eq_of_beq_eq_true hb
              subst hb
              exact ⟨0, by decide, (fun z => by cases z), s_S_answer z⟩
            | false =>
              rw [hb] at z
              dsimp only at z
              cases hb : Nat.beq j 146 with
              | true =>
                have hb := Nat.eq_of_beq_eq_true hb
                subst hb
                exact ⟨0, by decide, (fun z => by cases z), s_S_refuse z⟩
              | false =>
                rw [hb] at z
                dsimp only at z
                cases hb : Nat.beq j 150 with
                | true =>
                  have hb := Nat.eq_of_beq_eq_true hb
                  subst hb
                  exact ⟨0, by decide, (fun z => by cases z), s_S_isWithin z⟩
                | false =>
                  rw [hb] at z
                  dsimp only at z
                  cases hb : Nat.beq j 152 with
                  | true =>
                    have hb := Nat.eq_of_beq_eq_true hb
                    subst hb
                    exact ⟨1, by decide, (fun z => by cases z), s_S_isTray z⟩
                  | false =>
                    rw [hb] at z
                    dsimp only at z
                    cases z)
      (fun _ _ _ _ z => by cases z)
      (fun _ _ _ _ z => by cases z)
      (fun _ _ _ _ z => by cases z)
      (fun p e R s m args below meth c Q n0 F hret => ?_)
    rw [m1] at F hret ⊢
    rw [mc_S_few] at F hret
    exact cuts_s (K := 400) (M := 143) (D := D_S_few N) (B := fun _ _ _ _ _ => none) F hret (chkT_ok chk_S_few) (hM_S_few N) (fun _ _ _ _ _ z => by cases z) (hD_S_few N) N 0 _ _ _ hf
  · cases hf
def T_S_fewOf : List (List (Option RW)) := [
  [some (.iload_n 1, 1, [1], 0, 0), some (.ifCond .ge 9, 3, [10], 0, 0), none, none, some (.aload_n 0, 1, [0], 0, 0), some (.iconst 1, 1, [], 1, 0), some (.invokevirtual 128, 3, [0, 146, 2, 0], 0, 0), none, none, some (.ireturn, 1, [], 0, 0), some (.iload_n 1, 1, [1], 0, 0), some (.aload_n 0, 1, [0], 0, 0), some (.getfield 67, 3, [11, 8, 2, 0, 1, 49], 0, 0), none, none, some (.getfield 367, 3, [1, 3, 0], 0, 0), none, none, some (.if_icmp .ge 9, 3, [27], 0, 0), none, none, some (.iload_n 1, 1, [1], 0, 0), some (.bipush 8, 2, [], 8, 0), none, some (.if_icmp .lt 10, 3, [34], 0, 0), none, none, some (.aload_n 0, 1, [0], 0, 0), some (.bipush 6, 2, [], 6, 0), none, some (.invokevirtual 128, 3, [0, 146, 2, 0], 0, 0), none],
  [none, some (.ireturn, 1, [], 0, 0), some (.aload_n 0, 1, [0], 0, 0), some (.aload_n 0, 1, [0], 0, 0), some (.getfield 67, 3, [11, 8, 2, 0, 1, 49], 0, 0), none, none, some (.getfield 370, 3, [1, 1, 2, 1, 8, 2], 0, 0), none, none, some (.iload_n 1, 1, [1], 0, 0), some (.iaload, 1, [], 0, 0), some (.invokevirtual 183, 3, [0, 144, 2, 0], 0, 0), none, none, some (.ireturn, 1, [], 0, 0)]]
def f_S_fewOf (N : Nat) (a1 : Int32) (h : MH) : Option (Int32 × MH) :=
  if 0 ≤ a1 then
  (if (gI h 50 3) ≤ a1 then
  ((f_S_refuse N 6 h).bind (fun x1 =>
  some (x1.1, x1.2)))
  else
  (if a1 < 8 then
  (if inB a1 8 = true then
  ((f_S_answer N (gI h 52 (iN a1)) h).bind (fun x2 =>
  some (x2.1, x2.2)))
  else none)
  else
  ((f_S_refuse N 6 h).bind (fun x3 =>
  some (x3.1, x3.2)))))
  else
  ((f_S_refuse N 1 h).bind (fun x4 =>
  some (x4.1, x4.2)))
def C_S_fewOf (N : Nat) : MC := (KDL, false, (fun _ => 0), jsB, (fun j => match Nat.beq j 144 with
    | true => w_S_answer (f_S_answer N)
    | false => match Nat.beq j 146 with
    | true => w_S_refuse (f_S_refuse N)
    | false => fun _ _ => none), (fun _ _ _ => none), (fun _ _ _ => none), (fun _ _ _ => none))
def D_S_fewOf (N : Nat) (n pc : Nat) (lv : ML) (st : List MV) (h : MH) : Option (Int32 × MH) :=
  match Nat.beq pc 0 with
  | true => (match lk lv 0, lk lv 1, st with
    | some (.inr (.inr (0, 11, 1))), some (.inl a1), [] => f_S_fewOf N a1 h
    | _, _, _ => none)
  | false => none
set_option maxRecDepth 1000000 in
theorem E_S_fewOf_0 (N : Nat) (n : Nat) (a1 : Int32) (h : MH) : seg (C_S_fewOf N) 2 0 rI T_S_fewOf [0] (fun q lv st h => match Nat.ble 1 q with
    | true => D_S_fewOf N n q lv st h
    | false => none) 400 true 0 [(0, .inr (.inr (0, 11, 1))), (1, .inl a1)] [] h = f_S_fewOf N a1 h := (rfl)
set_option maxRecDepth 1000000 in
theorem chk_S_fewOf : chkT 11 false prog_1_method_36_code T_S_fewOf = true := by decide +kernel
theorem mc_S_fewOf : mC 143 = prog_1_method_36_code := by rfl
theorem mx_S_fewOf : mL 143 = 2 ∧ mR 143 = some .int ∧ mK 143 = 1 ∧ (mN 143).cls = cN 11 := by decide +kernel
theorem hD_S_fewOf (N : Nat) {r : Int32 × MH} : ∀ n pc lv st h, D_S_fewOf N n pc lv st h = some r → ∃ lv', (∀ q ∈ lv', q ∈ lv) ∧ seg (C_S_fewOf N) 2 0 rI T_S_fewOf [0] (fun q lv st h => match Nat.ble (pc + 1) q with
    | true => D_S_fewOf N n q lv st h
    | false => none) 400 true pc lv' st h = some r := by
  intro n pc lv st h hf
  unfold D_S_fewOf at hf
  split at hf
  · rename_i hb
    have hb := Nat.eq_of_beq_eq_true hb
    subst hb
    split at hf
    · rename_i y0 e0 e1
      exact ⟨_, (sub_cons e0 (sub_cons e1 sub_nil)), (E_S_fewOf_0 N n _ h).trans hf⟩
    · cases hf
  · skip
    cases hf
theorem hM_S_fewOf (N : Nat) {r : Int32 × MH} : ∀ n pc lv st h, D_S_fewOf N n pc lv st h = some r → pc < 48 := by
  intro n pc lv st h hf
  unfold D_S_fewOf at hf
  split at hf
  · rename_i hb
    rw [Nat.eq_of_beq_eq_true hb]
    decide
  · skip
    cases hf
theorem s_S_fewOf {l : Launch} {E : EV} {N : Nat} {as : List MV} {h : MH} {r : Int32 × MH} (hf : w_S_fewOf (f_S_fewOf N) as h = some r) : SndM l E false 1 143 as h (some (.inl r.1)) r.2 := by
  unfold w_S_fewOf at hf
  split at hf
  · obtain ⟨m1, m2, m3, m4⟩ := mx_S_fewOf
    refine snd_of (C := C_S_fewOf N) (own := 11) (rz := 0) (lim := 115) rI_eq m2 m4 pl_143 (TB_in _ cw_143 rfl) ⟨(fun _ => ⟨_, _, _, _, _, _, rfl, rfl, by rw [m4]; rfl⟩), (fun z => by rw [m3] at z; cases z)⟩ (fun z => by cases z) KDL_take rfl rfl (fun z => by cases z) (fun z => by cases z) (fun _ => rfl) (by rw [m1]; exact Nat.le_of_ble_eq_true rfl)
      (fun j as h x z => by
      dsimp only [C_S_fewOf] at z
      cases hb : Nat.beq j 144 with
      | true =>
        have hb := Nat.eq_of_beq_eq_true hb
        subst hb
        exact ⟨0, by decide, (fun z => by cases z), s_S_answer z⟩
      | false =>
        rw [hb] at z
        dsimp only at z
        cases hb : Nat.beq j 146 with
        | true =>
          have hb := Nat.eq_of_beq_eq_true hb
          subst hb
          exact ⟨0, by decide, (fun z => by cases z), s_S_refuse z⟩
        | false =>
          rw [hb] at z
          dsimp only at z
          cases z)
      (fun _ _ _ _ z => by cases z)
      (fun _ _ _ _ z => by cases z)
      (fun _ _ _ _ z => by cases z)
      (fun p e R s m args below meth c Q n0 F hret => ?_)
    rw [m1] at F hret ⊢
    rw [mc_S_fewOf] at F hret
    exact cuts_s (K := 400) (M := 48) (D := D_S_fewOf N) (B := fun _ _ _ _ _ => none) F hret (chkT_ok chk_S_fewOf) (hM_S_fewOf N) (fun _ _ _ _ _ z => by cases z) (hD_S_fewOf N) N 0 _ _ _ hf
  · cases hf
def T_M_status : List (List (Option RW)) := [
  [some (.aload_n 0, 1, [0], 0, 0), some (.getfield 174, 3, [12, 0, 0], 0, 0), none, none, some (.ireturn, 1, [], 0, 0)]]
def f_M_status (N : Nat) (h : MH) : Option (Int32 × MH) :=
  some (gI h 68 0, h)
def C_M_status (N : Nat) : MC := (KDL, false, (fun _ => 0), jsB, (fun _ _ _ => none), (fun _ _ _ => none), (fun _ _ _ => none), (fun _ _ _ => none))
def D_M_status (N : Nat) (n pc : Nat) (lv : ML) (st : List MV) (h : MH) : Option (Int32 × MH) :=
  match Nat.beq pc 0 with
  | true => (match lk lv 0, st with
    | some (.inr (.inr (0, 12, 68))), [] => f_M_status N h
    | _, _ => none)
  | false => none
set_option maxRecDepth 1000000 in
theorem E_M_status_0 (N : Nat) (n : Nat) (h : MH) : seg (C_M_status N) 1 0 rI T_M_status [0] (fun q lv st h => match Nat.ble 1 q with
    | true => D_M_status N n q lv st h
    | false => none) 400 true 0 [(0, .inr (.inr (0, 12, 68)))] [] h = f_M_status N h := (rfl)
set_option maxRecDepth 1000000 in
theorem chk_M_status : chkT 12 false prog_14_method_2_code T_M_status = true := by decide +kernel
theorem mc_M_status : mC 164 = prog_14_method_2_code := by rfl
theorem mx_M_status : mL 164 = 1 ∧ mR 164 = some .int ∧ mK 164 = 1 ∧ (mN 164).cls = cN 12 := by decide +kernel
theorem hD_M_status (N : Nat) {r : Int32 × MH} : ∀ n pc lv st h, D_M_status N n pc lv st h = some r → ∃ lv', (∀ q ∈ lv', q ∈ lv) ∧ seg (C_M_status N) 1 0 rI T_M_status [0] (fun q lv st h => match Nat.ble (pc + 1) q with
    | true => D_M_status N n q lv st h
    | false => none) 400 true pc lv' st h = some r := by
  intro n pc lv st h hf
  unfold D_M_status at hf
  split at hf
  · rename_i hb
    have hb := Nat.eq_of_beq_eq_true hb
    subst hb
    split at hf
    · rename_i e0
      exact ⟨_, (sub_cons e0 sub_nil), (E_M_status_0 N n h).trans hf⟩
    · cases hf
  · skip
    cases hf
theorem hM_M_status (N : Nat) {r : Int32 × MH} : ∀ n pc lv st h, D_M_status N n pc lv st h = some r → pc < 5 := by
  intro n pc lv st h hf
  unfold D_M_status at hf
  split at hf
  · rename_i hb
    rw [Nat.eq_of_beq_eq_true hb]
    decide
  · skip
    cases hf
theorem s_M_status {l : Launch} {E : EV} {N : Nat} {as : List MV} {h : MH} {r : Int32 × MH} (hf : w_M_status (f_M_status N) as h = some r) : SndM l E false 0 164 as h (some (.inl r.1)) r.2 := by
  unfold w_M_status at hf
  split at hf
  · obtain ⟨m1, m2, m3, m4⟩ := mx_M_status
    refine snd_of (C := C_M_status N) (own := 12) (rz := 0) (lim := 115) rI_eq m2 m4 pl_164 (TB_in _ cw_164 rfl) ⟨(fun _ => ⟨_, _, _, _, _, _, rfl, rfl, by rw [m4]; rfl⟩), (fun z => by rw [m3] at z; cases z)⟩ (fun z => by cases z) KDL_take rfl rfl (fun z => by cases z) (fun z => by cases z) (fun _ => rfl) (by rw [m1]; exact Nat.le_of_ble_eq_true rfl)
      (fun _ _ _ _ z => by cases z)
      (fun _ _ _ _ z => by cases z)
      (fun _ _ _ _ z => by cases z)
      (fun _ _ _ _ z => by cases z)
      (fun p e R s m args below meth c Q n0 F hret => ?_)
    rw [m1] at F hret ⊢
    rw [mc_M_status] at F hret
    exact cuts_s (K := 400) (M := 5) (D := D_M_status N) (B := fun _ _ _ _ _ => none) F hret (chkT_ok chk_M_status) (hM_M_status N) (fun _ _ _ _ _ z => by cases z) (hD_M_status N) N 0 _ _ _ hf
  · cases hf
def T_M_top : List (List (Option RW)) := [
  [some (.aload_n 0, 1, [0], 0, 0), some (.getfield 177, 3, [12, 1, 1], 0, 0), none, none, some (.lreturn, 1, [], 0, 0)]]
def f_M_top (N : Nat) (h : MH) : Option (Int64 × MH) :=
  some (gJ h 68 1, h)
def C_M_top (N : Nat) : MC := (KDL, false, (fun _ => 0), jsB, (fun _ _ _ => none), (fun _ _ _ => none), (fun _ _ _ => none), (fun _ _ _ => none))
def D_M_top (N : Nat) (n pc : Nat) (lv : ML) (st : List MV) (h : MH) : Option (Int64 × MH) :=
  match Nat.beq pc 0 with
  | true => (match lk lv 0, st with
    | some (.inr (.inr (0, 12, 68))), [] => f_M_top N h
    | _, _ => none)
  | false => none
set_option maxRecDepth 1000000 in
theorem E_M_top_0 (N : Nat) (n : Nat) (h : MH) : seg (C_M_top N) 1 0 rJ T_M_top [0] (fun q lv st h => match Nat.ble 1 q with
    | true => D_M_top N n q lv st h
    | false => none) 400 true 0 [(0, .inr (.inr (0, 12, 68)))] [] h = f_M_top N h := (rfl)
set_option maxRecDepth 1000000 in
theorem chk_M_top : chkT 12 false prog_14_method_3_code T_M_top = true := by decide +kernel
theorem mc_M_top : mC 165 = prog_14_method_3_code := by rfl
theorem mx_M_top : mL 165 = 1 ∧ mR 165 = some .long ∧ mK 165 = 1 ∧ (mN 165).cls = cN 12 := by decide +kernel
theorem hD_M_top (N : Nat) {r : Int64 × MH} : ∀ n pc lv st h, D_M_top N n pc lv st h = some r → ∃ lv', (∀ q ∈ lv', q ∈ lv) ∧ seg (C_M_top N) 1 0 rJ T_M_top [0] (fun q lv st h => match Nat.ble (pc + 1) q with
    | true => D_M_top N n q lv st h
    | false => none) 400 true pc lv' st h = some r := by
  intro n pc lv st h hf
  unfold D_M_top at hf
  split at hf
  · rename_i hb
    have hb := Nat.eq_of_beq_eq_true hb
    subst hb
    split at hf
    · rename_i e0
      exact ⟨_, (sub_cons e0 sub_nil), (E_M_top_0 N n h).trans hf⟩
    · cases hf
  · skip
    cases hf
theorem hM_M_top (N : Nat) {r : Int64 × MH} : ∀ n pc lv st h, D_M_top N n pc lv st h = some r → pc < 5 := by
  intro n pc lv st h hf
  unfold D_M_top at hf
  split at hf
  · rename_i hb
    rw [Nat.eq_of_beq_eq_true hb]
    decide
  · skip
    cases hf
theorem s_M_top {l : Launch} {E : EV} {N : Nat} {as : List MV} {h : MH} {r : Int64 × MH} (hf : w_M_top (f_M_top N) as h = some r) : SndM l E false 0 165 as h (some (.inr (.inl r.1))) r.2 := by
  unfold w_M_top at hf
  split at hf
  · obtain ⟨m1, m2, m3, m4⟩ := mx_M_top
    refine snd_of (C := C_M_top N) (own := 12) (rz := 0) (lim := 115) rJ_eq m2 m4 pl_165 (TB_in _ cw_165 rfl) ⟨(fun _ => ⟨_, _, _, _, _, _, rfl, rfl, by rw [m4]; rfl⟩), (fun z => by rw [m3] at z; cases z)⟩ (fun z => by cases z) KDL_take rfl rfl (fun z => by cases z) (fun z => by cases z) (fun _ => rfl) (by rw [m1]; exact Nat.le_of_ble_eq_true rfl)
      (fun _ _ _ _ z => by cases z)
      (fun _ _ _ _ z => by cases z)
      (fun _ _ _ _ z => by cases z)
      (fun _ _ _ _ z => by cases z)
      (fun p e R s m args below meth c Q n0 F hret => ?_)
    rw [m1] at F hret ⊢
    rw [mc_M_top] at F hret
    exact cuts_s (K := 400) (M := 5) (D := D_M_top N) (B := fun _ _ _ _ _ => none) F hret (chkT_ok chk_M_top) (hM_M_top N) (fun _ _ _ _ _ z => by cases z) (hD_M_top N) N 0 _ _ _ hf
  · cases hf
def T_M_bottom : List (List (Option RW)) := [
  [some (.aload_n 0, 1, [0], 0, 0), some (.getfield 7, 3, [12, 2, 1], 0, 0), none, none, some (.lreturn, 1, [], 0, 0)]]
def f_M_bottom (N : Nat) (h : MH) : Option (Int64 × MH) :=
  some (gJ h 68 2, h)
def C_M_bottom (N : Nat) : MC := (KDL, false, (fun _ => 0), jsB, (fun _ _ _ => none), (fun _ _ _ => none), (fun _ _ _ => none), (fun _ _ _ => none))
def D_M_bottom (N : Nat) (n pc : Nat) (lv : ML) (st : List MV) (h : MH) : Option (Int64 × MH) :=
  match Nat.beq pc 0 with
  | true => (match lk lv 0, st with
    | some (.inr (.inr (0, 12, 68))), [] => f_M_bottom N h
    | _, _ => none)
  | false => none
set_option maxRecDepth 1000000 in
theorem E_M_bottom_0 (N : Nat) (n : Nat) (h : MH) : seg (C_M_bottom N) 1 0 rJ T_M_bottom [0] (fun q lv st h => match Nat.ble 1 q with
    | true => D_M_bottom N n q lv st h
    | false => none) 400 true 0 [(0, .inr (.inr (0, 12, 68)))] [] h = f_M_bottom N h := (rfl)
set_option maxRecDepth 1000000 in
theorem chk_M_bottom : chkT 12 false prog_14_method_4_code T_M_bottom = true := by decide +kernel
theorem mc_M_bottom : mC 166 = prog_14_method_4_code := by rfl
theorem mx_M_bottom : mL 166 = 1 ∧ mR 166 = some .long ∧ mK 166 = 1 ∧ (mN 166).cls = cN 12 := by decide +kernel
theorem hD_M_bottom (N : Nat) {r : Int64 × MH} : ∀ n pc lv st h, D_M_bottom N n pc lv st h = some r → ∃ lv', (∀ q ∈ lv', q ∈ lv) ∧ seg (C_M_bottom N) 1 0 rJ T_M_bottom [0] (fun q lv st h => match Nat.ble (pc + 1) q with
    | true => D_M_bottom N n q lv st h
    | false => none) 400 true pc lv' st h = some r := by
  intro n pc lv st h hf
  unfold D_M_bottom at hf
  split at hf
  · rename_i hb
    have hb := Nat.eq_of_beq_eq_true hb
    subst hb
    split at hf
    · rename_i e0
      exact ⟨_, (sub_cons e0 sub_nil), (E_M_bottom_0 N n h).trans hf⟩
    · cases hf
  · skip
    cases hf
theorem hM_M_bottom (N : Nat) {r : Int64 × MH} : ∀ n pc lv st h, D_M_bottom N n pc lv st h = some r → pc < 5 := by
  intro n pc lv st h hf
  unfold D_M_bottom at hf
  split at hf
  · rename_i hb
    rw [Nat.eq_of_beq_eq_true hb]
    decide
  · skip
    cases hf
theorem s_M_bottom {l : Launch} {E : EV} {N : Nat} {as : List MV} {h : MH} {r : Int64 × MH} (hf : w_M_bottom (f_M_bottom N) as h = some r) : SndM l E false 0 166 as h (some (.inr (.inl r.1))) r.2 := by
  unfold w_M_bottom at hf
  split at hf
  · obtain ⟨m1, m2, m3, m4⟩ := mx_M_bottom
    refine snd_of (C := C_M_bottom N) (own := 12) (rz := 0) (lim := 115) rJ_eq m2 m4 pl_166 (TB_in _ cw_166 rfl) ⟨(fun _ => ⟨_, _, _, _, _, _, rfl, rfl, by rw [m4]; rfl⟩), (fun z => by rw [m3] at z; cases z)⟩ (fun z => by cases z) KDL_take rfl rfl (fun z => by cases z) (fun z => by cases z) (fun _ => rfl) (by rw [m1]; exact Nat.le_of_ble_eq_true rfl)
      (fun _ _ _ _ z => by cases z)
      (fun _ _ _ _ z => by cases z)
      (fun _ _ _ _ z => by cases z)
      (fun _ _ _ _ z => by cases z)
      (fun p e R s m args below meth c Q n0 F hret => ?_)
    rw [m1] at F hret ⊢
    rw [mc_M_bottom] at F hret
    exact cuts_s (K := 400) (M := 5) (D := D_M_bottom N) (B := fun _ _ _ _ _ => none) F hret (chkT_ok chk_M_bottom) (hM_M_bottom N) (fun _ _ _ _ _ z => by cases z) (hD_M_bottom N) N 0 _ _ _ hf
  · cases hf
def T_M_is : List (List (Option RW)) := [
  [some (.aload_n 0, 1, [0], 0, 0), some (.iload_n 1, 1, [1], 0, 0), some (.putfield 174, 3, [12, 0, 0], 0, 0), none, none, some (.iload_n 1, 1, [1], 0, 0), some (.ifCond .ne 7, 3, [13], 0, 0), none, none, some (.iconst 1, 1, [], 1, 0), some (.goto 4, 3, [14], 0, 0), none, none, some (.iconst 0, 1, [], 0, 0), some (.ireturn, 1, [], 0, 0)]]
def f_M_is (N : Nat) (a1 : Int32) (h : MH) : Option (Int32 × MH) :=
  let h1 : MH := sI h 68 0 a1
  if a1 = 0 then
  (some (1, h1))
  else
  (some (0, h1))
def C_M_is (N : Nat) : MC := (KDL, false, (fun _ => 0), jsB, (fun _ _ _ => none), (fun _ _ _ => none), (fun _ _ _ => none), (fun _ _ _ => none))
def D_M_is (N : Nat) (n pc : Nat) (lv : ML) (st : List MV) (h : MH) : Option (Int32 × MH) :=
  match Nat.beq pc 0 with
  | true => (match lk lv 0, lk lv 1, st with
    | some (.inr (.inr (0, 12, 68))), some (.inl a1), [] => f_M_is N a1 h
    | _, _, _ => none)
  | false => none
set_option maxRecDepth 1000000 in
theorem E_M_is_0 (N : Nat) (n : Nat) (a1 : Int32) (h : MH) : seg (C_M_is N) 2 1 rI T_M_is [0] (fun q lv st h => match Nat.ble 1 q with
    | true => D_M_is N n q lv st h
    | false => none) 400 true 0 [(0, .inr (.inr (0, 12, 68))), (1, .inl a1)] [] h = f_M_is N a1 h := (rfl)
set_option maxRecDepth 1000000 in
theorem chk_M_is : chkT 12 false prog_14_method_5_code T_M_is = true := by decide +kernel
theorem mc_M_is : mC 167 = prog_14_method_5_code := by rfl
theorem mx_M_is : mL 167 = 2 ∧ mR 167 = some .boolean ∧ mK 167 = 1 ∧ (mN 167).cls = cN 12 := by decide +kernel
theorem hD_M_is (N : Nat) {r : Int32 × MH} : ∀ n pc lv st h, D_M_is N n pc lv st h = some r → ∃ lv', (∀ q ∈ lv', q ∈ lv) ∧ seg (C_M_is N) 2 1 rI T_M_is [0] (fun q lv st h => match Nat.ble (pc + 1) q with
    | true => D_M_is N n q lv st h
    | false => none) 400 true pc lv' st h = some r := by
  intro n pc lv st h hf
  unfold D_M_is at hf
  split at hf
  · rename_i hb
    have hb := Nat.eq_of_beq_eq_true hb
    subst hb
    split at hf
    · rename_i y0 e0 e1
      exact ⟨_, (sub_cons e0 (sub_cons e1 sub_nil)), (E_M_is_0 N n _ h).trans hf⟩
    · cases hf
  · skip
    cases hf
theorem hM_M_is (N : Nat) {r : Int32 × MH} : ∀ n pc lv st h, D_M_is N n pc lv st h = some r → pc < 15 := by
  intro n pc lv st h hf
  unfold D_M_is at hf
  split at hf
  · rename_i hb
    rw [Nat.eq_of_beq_eq_true hb]
    decide
  · skip
    cases hf
theorem s_M_is {l : Launch} {E : EV} {N : Nat} {as : List MV} {h : MH} {r : Int32 × MH} (hf : w_M_is (f_M_is N) as h = some r) : SndM l E false 0 167 as h (some (.inl r.1)) r.2 := by
  unfold w_M_is at hf
  split at hf
  · obtain ⟨m1, m2, m3, m4⟩ := mx_M_is
    refine snd_of (C := C_M_is N) (own := 12) (rz := 1) (lim := 115) rI_eq m2 m4 pl_167 (TB_in _ cw_167 rfl) ⟨(fun _ => ⟨_, _, _, _, _, _, rfl, rfl, by rw [m4]; rfl⟩), (fun z => by rw [m3] at z; cases z)⟩ (fun z => by cases z) KDL_take rfl rfl (fun z => by cases z) (fun z => by cases z) (fun _ => rfl) (by rw [m1]; exact Nat.le_of_ble_eq_true rfl)
      (fun _ _ _ _ z => by cases z)
      (fun _ _ _ _ z => by cases z)
      (fun _ _ _ _ z => by cases z)
      (fun _ _ _ _ z => by cases z)
      (fun p e R s m args below meth c Q n0 F hret => ?_)
    rw [m1] at F hret ⊢
    rw [mc_M_is] at F hret
    exact cuts_s (K := 400) (M := 15) (D := D_M_is N) (B := fun _ _ _ _ _ => none) F hret (chkT_ok chk_M_is) (hM_M_is N) (fun _ _ _ _ _ z => by cases z) (hD_M_is N) N 0 _ _ _ hf
  · cases hf
def T_M_refuse : List (List (Option RW)) := [
  [some (.aload_n 0, 1, [0], 0, 0), some (.iload_n 1, 1, [1], 0, 0), some (.putfield 174, 3, [12, 0, 0], 0, 0), none, none, some (.iconst (-1), 1, [], (-1), 0), some (.ireturn, 1, [], 0, 0)]]
def f_M_refuse (N : Nat) (a1 : Int32) (h : MH) : Option (Int32 × MH) :=
  let h1 : MH := sI h 68 0 a1
  some ((-1), h1)
def C_M_refuse (N : Nat) : MC := (KDL, false, (fun _ => 0), jsB, (fun _ _ _ => none), (fun _ _ _ => none), (fun _ _ _ => none), (fun _ _ _ => none))
def D_M_refuse (N : Nat) (n pc : Nat) (lv : ML) (st : List MV) (h : MH) : Option (Int32 × MH) :=
  match Nat.beq pc 0 with
  | true => (match lk lv 0, lk lv 1, st with
    | some (.inr (.inr (0, 12, 68))), some (.inl a1), [] => f_M_refuse N a1 h
    | _, _, _ => none)
  | false => none
set_option maxRecDepth 1000000 in
theorem E_M_refuse_0 (N : Nat) (n : Nat) (a1 : Int32) (h : MH) : seg (C_M_refuse N) 2 0 rI T_M_refuse [0] (fun q lv st h => match Nat.ble 1 q with
    | true => D_M_refuse N n q lv st h
    | false => none) 400 true 0 [(0, .inr (.inr (0, 12, 68))), (1, .inl a1)] [] h = f_M_refuse N a1 h := (rfl)
set_option maxRecDepth 1000000 in
theorem chk_M_refuse : chkT 12 false prog_14_method_6_code T_M_refuse = true := by decide +kernel
theorem mc_M_refuse : mC 168 = prog_14_method_6_code := by rfl
theorem mx_M_refuse : mL 168 = 2 ∧ mR 168 = some .int ∧ mK 168 = 1 ∧ (mN 168).cls = cN 12 := by decide +kernel
theorem hD_M_refuse (N : Nat) {r : Int32 × MH} : ∀ n pc lv st h, D_M_refuse N n pc lv st h = some r → ∃ lv', (∀ q ∈ lv', q ∈ lv) ∧ seg (C_M_refuse N) 2 0 rI T_M_refuse [0] (fun q lv st h => match Nat.ble (pc + 1) q with
    | true => D_M_refuse N n q lv st h
    | false => none) 400 true pc lv' st h = some r := by
  intro n pc lv st h hf
  unfold D_M_refuse at hf
  split at hf
  · rename_i hb
    have hb := Nat.eq_of_beq_eq_true hb
    subst hb
    split at hf
    · rename_i y0 e0 e1
      exact ⟨_, (sub_cons e0 (sub_cons e1 sub_nil)), (E_M_refuse_0 N n _ h).trans hf⟩
    · cases hf
  · skip
    cases hf
theorem hM_M_refuse (N : Nat) {r : Int32 × MH} : ∀ n pc lv st h, D_M_refuse N n pc lv st h = some r → pc < 7 := by
  intro n pc lv st h hf
  unfold D_M_refuse at hf
  split at hf
  · rename_i hb
    rw [Nat.eq_of_beq_eq_true hb]
    decide
  · skip
    cases hf
theorem s_M_refuse {l : Launch} {E : EV} {N : Nat} {as : List MV} {h : MH} {r : Int32 × MH} (hf : w_M_refuse (f_M_refuse N) as h = some r) : SndM l E false 0 168 as h (some (.inl r.1)) r.2 := by
  unfold w_M_refuse at hf
  split at hf
  · obtain ⟨m1, m2, m3, m4⟩ := mx_M_refuse
    refine snd_of (C := C_M_refuse N) (own := 12) (rz := 0) (lim := 115) rI_eq m2 m4 pl_168 (TB_in _ cw_168 rfl) ⟨(fun _ => ⟨_, _, _, _, _, _, rfl, rfl, by rw [m4]; rfl⟩), (fun z => by rw [m3] at z; cases z)⟩ (fun z => by cases z) KDL_take rfl rfl (fun z => by cases z) (fun z => by cases z) (fun _ => rfl) (by rw [m1]; exact Nat.le_of_ble_eq_true rfl)
      (fun _ _ _ _ z => by cases z)
      (fun _ _ _ _ z => by cases z)
      (fun _ _ _ _ z => by cases z)
      (fun _ _ _ _ z => by cases z)
      (fun p e R s m args below meth c Q n0 F hret => ?_)
    rw [m1] at F hret ⊢
    rw [mc_M_refuse] at F hret
    exact cuts_s (K := 400) (M := 7) (D := D_M_refuse N) (B := fun _ _ _ _ _ => none) F hret (chkT_ok chk_M_refuse) (hM_M_refuse N) (fun _ _ _ _ _ z => by cases z) (hD_M_refuse N) N 0 _ _ _ hf
  · cases hf
def T_M_gives : List (List (Option RW)) := [
  [some (.aload_n 0, 1, [0], 0, 0), some (.iconst 0, 1, [], 0, 0), some (.putfield 174, 3, [12, 0, 0], 0, 0), none, none, some (.iload_n 1, 1, [1], 0, 0), some (.ireturn, 1, [], 0, 0)]]
def f_M_gives (N : Nat) (a1 : Int32) (h : MH) : Option (Int32 × MH) :=
  let h1 : MH := sI h 68 0 0
  some (a1, h1)
def C_M_gives (N : Nat) : MC := (KDL, false, (fun _ => 0), jsB, (fun _ _ _ => none), (fun _ _ _ => none), (fun _ _ _ => none), (fun _ _ _ => none))
def D_M_gives (N : Nat) (n pc : Nat) (lv : ML) (st : List MV) (h : MH) : Option (Int32 × MH) :=
  match Nat.beq pc 0 with
  | true => (match lk lv 0, lk lv 1, st with
    | some (.inr (.inr (0, 12, 68))), some (.inl a1), [] => f_M_gives N a1 h
    | _, _, _ => none)
  | false => none
set_option maxRecDepth 1000000 in
theorem E_M_gives_0 (N : Nat) (n : Nat) (a1 : Int32) (h : MH) : seg (C_M_gives N) 2 0 rI T_M_gives [0] (fun q lv st h => match Nat.ble 1 q with
    | true => D_M_gives N n q lv st h
    | false => none) 400 true 0 [(0, .inr (.inr (0, 12, 68))), (1, .inl a1)] [] h = f_M_gives N a1 h := (rfl)
set_option maxRecDepth 1000000 in
theorem chk_M_gives : chkT 12 false prog_14_method_7_code T_M_gives = true := by decide +kernel
theorem mc_M_gives : mC 169 = prog_14_method_7_code := by rfl
theorem mx_M_gives : mL 169 = 2 ∧ mR 169 = some .int ∧ mK 169 = 1 ∧ (mN 169).cls = cN 12 := by decide +kernel
theorem hD_M_gives (N : Nat) {r : Int32 × MH} : ∀ n pc lv st h, D_M_gives N n pc lv st h = some r → ∃ lv', (∀ q ∈ lv', q ∈ lv) ∧ seg (C_M_gives N) 2 0 rI T_M_gives [0] (fun q lv st h => match Nat.ble (pc + 1) q with
    | true => D_M_gives N n q lv st h
    | false => none) 400 true pc lv' st h = some r := by
  intro n pc lv st h hf
  unfold D_M_gives at hf
  split at hf
  · rename_i hb
    have hb := Nat.eq_of_beq_eq_true hb
    subst hb
    split at hf
    · rename_i y0 e0 e1
      exact ⟨_, (sub_cons e0 (sub_cons e1 sub_nil)), (E_M_gives_0 N n _ h).trans hf⟩
    · cases hf
  · skip
    cases hf
theorem hM_M_gives (N : Nat) {r : Int32 × MH} : ∀ n pc lv st h, D_M_gives N n pc lv st h = some r → pc < 7 := by
  intro n pc lv st h hf
  unfold D_M_gives at hf
  split at hf
  · rename_i hb
    rw [Nat.eq_of_beq_eq_true hb]
    decide
  · skip
    cases hf
theorem s_M_gives {l : Launch} {E : EV} {N : Nat} {as : List MV} {h : MH} {r : Int32 × MH} (hf : w_M_gives (f_M_gives N) as h = some r) : SndM l E false 0 169 as h (some (.inl r.1)) r.2 := by
  unfold w_M_gives at hf
  split at hf
  · obtain ⟨m1, m2, m3, m4⟩ := mx_M_gives
    refine snd_of (C := C_M_gives N) (own := 12) (rz := 0) (lim := 115) rI_eq m2 m4 pl_169 (TB_in _ cw_169 rfl) ⟨(fun _ => ⟨_, _, _, _, _, _, rfl, rfl, by rw [m4]; rfl⟩), (fun z => by rw [m3] at z; cases z)⟩ (fun z => by cases z) KDL_take rfl rfl (fun z => by cases z) (fun z => by cases z) (fun _ => rfl) (by rw [m1]; exact Nat.le_of_ble_eq_true rfl)
      (fun _ _ _ _ z => by cases z)
      (fun _ _ _ _ z => by cases z)
      (fun _ _ _ _ z => by cases z)
      (fun _ _ _ _ z => by cases z)
      (fun p e R s m args below meth c Q n0 F hret => ?_)
    rw [m1] at F hret ⊢
    rw [mc_M_gives] at F hret
    exact cuts_s (K := 400) (M := 7) (D := D_M_gives N) (B := fun _ _ _ _ _ => none) F hret (chkT_ok chk_M_gives) (hM_M_gives N) (fun _ _ _ _ _ z => by cases z) (hD_M_gives N) N 0 _ _ _ hf
  · cases hf
def T_M_fraction : List (List (Option RW)) := [
  [some (.lload_n 1, 1, [1], 0, 0), some (.lconst 0, 1, [], 0, 0), some (.lcmp, 1, [], 0, 0), some (.ifCond .ge 8, 3, [11], 0, 0), none, none, some (.lload_n 1, 1, [1], 0, 0), some (.lneg, 1, [], 0, 0), some (.goto 4, 3, [12], 0, 0), none, none, some (.lload_n 1, 1, [1], 0, 0), some (.lstore 5, 2, [5], 0, 0), none, some (.lload_n 3, 1, [3], 0, 0), some (.lstore 7, 2, [7], 0, 0), none, some (.lload 7, 2, [7], 0, 0), none, some (.lconst 0, 1, [], 0, 0), some (.lcmp, 1, [], 0, 0), some (.ifCond .eq 21, 3, [42], 0, 0), none, none, some (.lload 5, 2, [5], 0, 0), none, some (.lload 7, 2, [7], 0, 0), none, some (.lrem, 1, [], 0, 0), some (.lstore 9, 2, [9], 0, 0), none, some (.lload 7, 2, [7], 0, 0)],
  [none, some (.lstore 5, 2, [5], 0, 0), none, some (.lload 9, 2, [9], 0, 0), none, some (.lstore 7, 2, [7], 0, 0), none, some (.goto (-22), 3, [17], 0, 0), none, none, some (.aload_n 0, 1, [0], 0, 0), some (.lload_n 1, 1, [1], 0, 0), some (.lload 5, 2, [5], 0, 0), none, some (.ldiv, 1, [], 0, 0), some (.putfield 177, 3, [12, 1, 1], 0, 0), none, none, some (.aload_n 0, 1, [0], 0, 0), some (.lload_n 3, 1, [3], 0, 0), some (.lload 5, 2, [5], 0, 0), none, some (.ldiv, 1, [], 0, 0), some (.putfield 7, 3, [12, 2, 1], 0, 0), none, none, some (.aload_n 0, 1, [0], 0, 0), some (.lload_n 1, 1, [1], 0, 0), some (.lconst 0, 1, [], 0, 0), some (.lcmp, 1, [], 0, 0), some (.ifCond .le 7, 3, [69], 0, 0), none],
  [none, some (.iconst 1, 1, [], 1, 0), some (.goto 14, 3, [80], 0, 0), none, none, some (.lload_n 1, 1, [1], 0, 0), some (.lconst 0, 1, [], 0, 0), some (.lcmp, 1, [], 0, 0), some (.ifCond .ge 7, 3, [79], 0, 0), none, none, some (.iconst (-1), 1, [], (-1), 0), some (.goto 4, 3, [80], 0, 0), none, none, some (.iconst 0, 1, [], 0, 0), some (.invokevirtual 180, 3, [0, 169, 2, 0], 0, 0), none, none, some (.ireturn, 1, [], 0, 0)]]
def F_M_fraction_17 (N : Nat) (bk : (Int64 → Int64 → Int64 → Int64 → MH → Option (Int32 × MH))) (a1 : Int64) (a3 : Int64) (a5 : Int64) (a7 : Int64) (h : MH) : Option (Int32 × MH) :=
  if (lg_cmp a7 0) = 0 then
  (if a5 = 0 then none else
  let h2 : MH := sJ h 68 1 (a1 / a5)
  if a5 = 0 then none else
  let h3 : MH := sJ h2 68 2 (a3 / a5)
  if (lg_cmp a1 0) ≤ 0 then
  (if 0 ≤ (lg_cmp a1 0) then
  ((f_M_gives N 0 h3).bind (fun x4 =>
  some (x4.1, x4.2)))
  else
  ((f_M_gives N ((-1)) h3).bind (fun x5 =>
  some (x5.1, x5.2))))
  else
  ((f_M_gives N 1 h3).bind (fun x6 =>
  some (x6.1, x6.2))))
  else
  (if a7 = 0 then none else
  let v7 : Int64 := a5 - a5 / a7 * a7
  bk a1 a3 a7 v7 h)
def F_M_fraction_0 (N : Nat) (bk : (Int64 → Int64 → Int64 → Int64 → MH → Option (Int32 × MH))) (a1 : Int64) (a3 : Int64) (h : MH) : Option (Int32 × MH) :=
  if 0 ≤ (lg_cmp a1 0) then
  (F_M_fraction_17 N bk a1 a3 a1 a3 h)
  else
  (let v1 : Int64 := -a1
  F_M_fraction_17 N bk a1 a3 v1 a3 h)
def L_M_fraction (N : Nat) : Nat → (Int64 → Int64 → Int64 → Int64 → MH → Option (Int32 × MH))
  | 0 => fun _ _ _ _ _ => none
  | n + 1 => F_M_fraction_17 N (L_M_fraction N n)
def f_M_fraction (N : Nat) (a1 : Int64) (a3 : Int64) (h : MH) : Option (Int32 × MH) := F_M_fraction_0 N (L_M_fraction N N) a1 a3 h
def C_M_fraction (N : Nat) : MC := (KDL, false, (fun _ => 0), jsB, (fun j => match Nat.beq j 169 with
    | true => w_M_gives (f_M_gives N)
    | false => fun _ _ => none), (fun _ _ _ => none), (fun _ _ _ => none), (fun _ _ _ => none))
def D_M_fraction (N : Nat) (n pc : Nat) (lv : ML) (st : List MV) (h : MH) : Option (Int32 × MH) :=
  match Nat.beq pc 0 with
  | true => (match lk lv 0, lk lv 1, lk lv 3, st with
    | some (.inr (.inr (0, 12, 68))), some (.inr (.inl a1)), some (.inr (.inl a3)), [] => F_M_fraction_0 N (L_M_fraction N n) a1 a3 h
    | _, _, _, _ => none)
  | false => match Nat.beq pc 17 with
  | true => (match lk lv 0, lk lv 1, lk lv 3, lk lv 5, lk lv 7, st with
    | some (.inr (.inr (0, 12, 68))), some (.inr (.inl a1)), some (.inr (.inl a3)), some (.inr (.inl a5)), some (.inr (.inl a7)), [] => F_M_fraction_17 N (L_M_fraction N n) a1 a3 a5 a7 h
    | _, _, _, _, _, _ => none)
  | false => none
def B_M_fraction (N : Nat) (n pc : Nat) (lv : ML) (st : List MV) (h : MH) : Option (Int32 × MH) :=
  match Nat.beq pc 17 with
  | true => (match lk lv 0, lk lv 1, lk lv 3, lk lv 5, lk lv 7, st with
    | some (.inr (.inr (0, 12, 68))), some (.inr (.inl a1)), some (.inr (.inl a3)), some (.inr (.inl a5)), some (.inr (.inl a7)), [] => ((L_M_fraction N n)) a1 a3 a5 a7 h
    | _, _, _, _, _, _ => none)
  | false => none
set_option maxRecDepth 1000000 in
theorem E_M_fraction_0 (N : Nat) (n : Nat) (a1 : Int64) (a3 : Int64) (h : MH) : seg (C_M_fraction N) 11 0 rI T_M_fraction [0, 17] (fun q lv st h => match Nat.ble 1 q with
    | true => D_M_fraction N n q lv st h
    | false => B_M_fraction N n q lv st h) 400 true 0 [(0, .inr (.inr (0, 12, 68))), (1, .inr (.inl a1)), (3, .inr (.inl a3))] [] h = F_M_fraction_0 N (L_M_fraction N n) a1 a3 h := (rfl)
set_option maxRecDepth 1000000 in
theorem E_M_fraction_17 (N : Nat) (n : Nat) (a1 : Int64) (a3 : Int64) (a5 : Int64) (a7 : Int64) (h : MH) : seg (C_M_fraction N) 11 0 rI T_M_fraction [0, 17] (fun q lv st h => match Nat.ble 18 q with
    | true => D_M_fraction N n q lv st h
    | false => B_M_fraction N n q lv st h) 400 true 17 [(0, .inr (.inr (0, 12, 68))), (1, .inr (.inl a1)), (3, .inr (.inl a3)), (5, .inr (.inl a5)), (7, .inr (.inl a7))] [] h = F_M_fraction_17 N (L_M_fraction N n) a1 a3 a5 a7 h := (rfl)
set_option maxRecDepth 1000000 in
theorem chk_M_fraction : chkT 12 false prog_14_method_8_code T_M_fraction = true := by decide +kernel
theorem mc_M_fraction : mC 170 = prog_14_method_8_code := by rfl
theorem mx_M_fraction : mL 170 = 11 ∧ mR 170 = some .int ∧ mK 170 = 1 ∧ (mN 170).cls = cN 12 := by decide +kernel
theorem hD_M_fraction (N : Nat) {r : Int32 × MH} : ∀ n pc lv st h, D_M_fraction N n pc lv st h = some r → ∃ lv', (∀ q ∈ lv', q ∈ lv) ∧ seg (C_M_fraction N) 11 0 rI T_M_fraction [0, 17] (fun q lv st h => match Nat.ble (pc + 1) q with
    | true => D_M_fraction N n q lv st h
    | false => B_M_fraction N n q lv st h) 400 true pc lv' st h = some r := by
  intro n pc lv st h hf
  unfold D_M_fraction at hf
  split at hf
  · rename_i hb
    have hb := Nat.eq_of_beq_eq_true hb
    subst hb
    split at hf
    · rename_i y0 y1 e0 e1 e2
      exact ⟨_, (sub_cons e0 (sub_cons e1 (sub_cons e2 sub_nil))), (E_M_fraction_0 N n _ _ h).trans hf⟩
    · cases hf
  · skip
    split at hf
    · rename_i hb
      have hb := Nat.eq_of_beq_eq_true hb
      subst hb
      split at hf
      · rename_i y0 y1 y2 y3 e0 e1 e2 e3 e4
        exact ⟨_, (sub_cons e0 (sub_cons e1 (sub_cons e2 (sub_cons e3 (sub_cons e4 sub_nil))))), (E_M_fraction_17 N n _ _ _ _ h).trans hf⟩
      · cases hf
    · skip
      cases hf
theorem hM_M_fraction (N : Nat) {r : Int32 × MH} : ∀ n pc lv st h, D_M_fraction N n pc lv st h = some r → pc < 84 := by
  intro n pc lv st h hf
  unfold D_M_fraction at hf
  split at hf
  · rename_i hb
    rw [Nat.eq_of_beq_eq_true hb]
    decide
  · skip
    split at hf
    · rename_i hb
      rw [Nat.eq_of_beq_eq_true hb]
      decide
    · skip
      cases hf
theorem hB_M_fraction (N : Nat) {r : Int32 × MH} : ∀ n pc lv st h, B_M_fraction N n pc lv st h = some r → ∃ k, n = k + 1 ∧ D_M_fraction N k pc lv st h = some r := by
  intro n pc lv st h hf
  unfold B_M_fraction at hf
  split at hf
  · rename_i hb
    have hb := Nat.eq_of_beq_eq_true hb
    subst hb
    cases n with
    | zero =>
      split at hf
      · cases hf
      · cases hf
    | succ k =>
      refine ⟨k, rfl, ?_⟩
      exact hf
  · skip
    cases hf
theorem s_M_fraction {l : Launch} {E : EV} {N : Nat} {as : List MV} {h : MH} {r : Int32 × MH} (hf : w_M_fraction (f_M_fraction N) as h = some r) : SndM l E false 1 170 as h (some (.inl r.1)) r.2 := by
  unfold w_M_fraction at hf
  split at hf
  · obtain ⟨m1, m2, m3, m4⟩ := mx_M_fraction
    refine snd_of (C := C_M_fraction N) (own := 12) (rz := 0) (lim := 115) rI_eq m2 m4 pl_170 (TB_in _ cw_170 rfl) ⟨(fun _ => ⟨_, _, _, _, _, _, rfl, rfl, by rw [m4]; rfl⟩), (fun z => by rw [m3] at z; cases z)⟩ (fun z => by cases z) KDL_take rfl rfl (fun z => by cases z) (fun z => by cases z) (fun _ => rfl) (by rw [m1]; exact Nat.le_of_ble_eq_true rfl)
      (fun j as h x z => by
      dsimp only [C_M_fraction] at z
      cases hb : Nat.beq j 169 with
      | true =>
        have hb := Nat.eq_of_beq_eq_true hb
        subst hb
        exact ⟨0, by decide, (fun z => by cases z), s_M_gives z⟩
      | false =>
        rw [hb] at z
        dsimp only at z
        cases z)
      (fun _ _ _ _ z => by cases z)
      (fun _ _ _ _ z => by cases z)
      (fun _ _ _ _ z => by cases z)
      (fun p e R s m args below meth c Q n0 F hret => ?_)
    rw [m1] at F hret ⊢
    rw [mc_M_fraction] at F hret
    exact cuts_s (K := 400) (M := 84) (D := D_M_fraction N) (B := B_M_fraction N) F hret (chkT_ok chk_M_fraction) (hM_M_fraction N) (hB_M_fraction N) (hD_M_fraction N) N 0 _ _ _ hf
  · cases hf
def T_M_isTray : List (List (Option RW)) := [
  [some (.iload_n 0, 1, [0], 0, 0), some (.ifCond .lt 12, 3, [13], 0, 0), none, none, some (.iload_n 0, 1, [0], 0, 0), some (.iconst 4, 1, [], 4, 0), some (.if_icmp .ge 7, 3, [13], 0, 0), none, none, some (.iconst 1, 1, [], 1, 0), some (.goto 4, 3, [14], 0, 0), none, none, some (.iconst 0, 1, [], 0, 0), some (.ireturn, 1, [], 0, 0)]]
def f_M_isTray (N : Nat) (a0 : Int32) (h : MH) : Option (Int32 × MH) :=
  if a0 < 0 then
  (some (0, h))
  else
  (if 4 ≤ a0 then
  (some (0, h))
  else
  (some (1, h)))
def C_M_isTray (N : Nat) : MC := (KDL, false, (fun _ => 0), jsB, (fun _ _ _ => none), (fun _ _ _ => none), (fun _ _ _ => none), (fun _ _ _ => none))
def D_M_isTray (N : Nat) (n pc : Nat) (lv : ML) (st : List MV) (h : MH) : Option (Int32 × MH) :=
  match Nat.beq pc 0 with
  | true => (match lk lv 0, st with
    | some (.inl a0), [] => f_M_isTray N a0 h
    | _, _ => none)
  | false => none
set_option maxRecDepth 1000000 in
theorem E_M_isTray_0 (N : Nat) (n : Nat) (a0 : Int32) (h : MH) : seg (C_M_isTray N) 1 1 rI T_M_isTray [0] (fun q lv st h => match Nat.ble 1 q with
    | true => D_M_isTray N n q lv st h
    | false => none) 400 true 0 [(0, .inl a0)] [] h = f_M_isTray N a0 h := (rfl)
set_option maxRecDepth 1000000 in
theorem chk_M_isTray : chkT 12 false prog_14_method_9_code T_M_isTray = true := by decide +kernel
theorem mc_M_isTray : mC 171 = prog_14_method_9_code := by rfl
theorem mx_M_isTray : mL 171 = 1 ∧ mR 171 = some .boolean ∧ mK 171 = 0 ∧ (mN 171).cls = cN 12 := by decide +kernel
theorem hD_M_isTray (N : Nat) {r : Int32 × MH} : ∀ n pc lv st h, D_M_isTray N n pc lv st h = some r → ∃ lv', (∀ q ∈ lv', q ∈ lv) ∧ seg (C_M_isTray N) 1 1 rI T_M_isTray [0] (fun q lv st h => match Nat.ble (pc + 1) q with
    | true => D_M_isTray N n q lv st h
    | false => none) 400 true pc lv' st h = some r := by
  intro n pc lv st h hf
  unfold D_M_isTray at hf
  split at hf
  · rename_i hb
    have hb := Nat.eq_of_beq_eq_true hb
    subst hb
    split at hf
    · rename_i y0 e0
      exact ⟨_, (sub_cons e0 sub_nil), (E_M_isTray_0 N n _ h).trans hf⟩
    · cases hf
  · skip
    cases hf
theorem hM_M_isTray (N : Nat) {r : Int32 × MH} : ∀ n pc lv st h, D_M_isTray N n pc lv st h = some r → pc < 15 := by
  intro n pc lv st h hf
  unfold D_M_isTray at hf
  split at hf
  · rename_i hb
    rw [Nat.eq_of_beq_eq_true hb]
    decide
  · skip
    cases hf
theorem s_M_isTray {l : Launch} {E : EV} {N : Nat} {as : List MV} {h : MH} {r : Int32 × MH} (hf : w_M_isTray (f_M_isTray N) as h = some r) : SndM l E false 0 171 as h (some (.inl r.1)) r.2 := by
  unfold w_M_isTray at hf
  split at hf
  · obtain ⟨m1, m2, m3, m4⟩ := mx_M_isTray
    refine snd_of (C := C_M_isTray N) (own := 12) (rz := 1) (lim := 115) rI_eq m2 m4 pl_171 (TB_in _ cw_171 rfl) ⟨(fun z => by rw [m3] at z; cases z), (fun z => by rw [m3] at z; cases z)⟩ (fun z => by cases z) KDL_take rfl rfl (fun z => by cases z) (fun z => by cases z) (fun _ => rfl) (by rw [m1]; exact Nat.le_of_ble_eq_true rfl)
      (fun _ _ _ _ z => by cases z)
      (fun _ _ _ _ z => by cases z)
      (fun _ _ _ _ z => by cases z)
      (fun _ _ _ _ z => by cases z)
      (fun p e R s m args below meth c Q n0 F hret => ?_)
    rw [m1] at F hret ⊢
    rw [mc_M_isTray] at F hret
    exact cuts_s (K := 400) (M := 15) (D := D_M_isTray N) (B := fun _ _ _ _ _ => none) F hret (chkT_ok chk_M_isTray) (hM_M_isTray N) (fun _ _ _ _ _ z => by cases z) (hD_M_isTray N) N 0 _ _ _ hf
  · cases hf
def T_M_cut : List (List (Option RW)) := [
  [some (.iload_n 2, 1, [2], 0, 0), some (.ifCond .ne 10, 3, [11], 0, 0), none, none, some (.lload_n 0, 1, [0], 0, 0), some (.l2i, 1, [], 0, 0), some (.i2b, 1, [], 0, 0), some (.i2l, 1, [], 0, 0), some (.goto 27, 3, [35], 0, 0), none, none, some (.iload_n 2, 1, [2], 0, 0), some (.iconst 1, 1, [], 1, 0), some (.if_icmp .ne 10, 3, [23], 0, 0), none, none, some (.lload_n 0, 1, [0], 0, 0), some (.l2i, 1, [], 0, 0), some (.i2s, 1, [], 0, 0), some (.i2l, 1, [], 0, 0), some (.goto 15, 3, [35], 0, 0), none, none, some (.iload_n 2, 1, [2], 0, 0), some (.iconst 2, 1, [], 2, 0), some (.if_icmp .ne 9, 3, [34], 0, 0), none, none, some (.lload_n 0, 1, [0], 0, 0), some (.l2i, 1, [], 0, 0), some (.i2l, 1, [], 0, 0), some (.goto 4, 3, [35], 0, 0)],
  [none, none, some (.lload_n 0, 1, [0], 0, 0), some (.lreturn, 1, [], 0, 0)]]
def f_M_cut (N : Nat) (a0 : Int64) (a2 : Int32) (h : MH) : Option (Int64 × MH) :=
  if a2 = 0 then
  (some (((((Int64.toInt32 a0)).toInt8.toInt32)).toInt64, h))
  else
  (if a2 = 1 then
  (some (((((Int64.toInt32 a0)).toInt16.toInt32)).toInt64, h))
  else
  (if a2 = 2 then
  (some (((Int64.toInt32 a0)).toInt64, h))
  else
  (some (a0, h))))
def C_M_cut (N : Nat) : MC := (KDL, false, (fun _ => 0), jsB, (fun _ _ _ => none), (fun _ _ _ => none), (fun _ _ _ => none), (fun _ _ _ => none))
def D_M_cut (N : Nat) (n pc : Nat) (lv : ML) (st : List MV) (h : MH) : Option (Int64 × MH) :=
  match Nat.beq pc 0 with
  | true => (match lk lv 0, lk lv 2, st with
    | some (.inr (.inl a0)), some (.inl a2), [] => f_M_cut N a0 a2 h
    | _, _, _ => none)
  | false => none
set_option maxRecDepth 1000000 in
theorem E_M_cut_0 (N : Nat) (n : Nat) (a0 : Int64) (a2 : Int32) (h : MH) : seg (C_M_cut N) 3 0 rJ T_M_cut [0] (fun q lv st h => match Nat.ble 1 q with
    | true => D_M_cut N n q lv st h
    | false => none) 400 true 0 [(0, .inr (.inl a0)), (2, .inl a2)] [] h = f_M_cut N a0 a2 h := (rfl)
set_option maxRecDepth 1000000 in
theorem chk_M_cut : chkT 12 false prog_14_method_10_code T_M_cut = true := by decide +kernel
theorem mc_M_cut : mC 172 = prog_14_method_10_code := by rfl
theorem mx_M_cut : mL 172 = 3 ∧ mR 172 = some .long ∧ mK 172 = 0 ∧ (mN 172).cls = cN 12 := by decide +kernel
theorem hD_M_cut (N : Nat) {r : Int64 × MH} : ∀ n pc lv st h, D_M_cut N n pc lv st h = some r → ∃ lv', (∀ q ∈ lv', q ∈ lv) ∧ seg (C_M_cut N) 3 0 rJ T_M_cut [0] (fun q lv st h => match Nat.ble (pc + 1) q with
    | true => D_M_cut N n q lv st h
    | false => none) 400 true pc lv' st h = some r := by
  intro n pc lv st h hf
  unfold D_M_cut at hf
  split at hf
  · rename_i hb
    have hb := Nat.eq_of_beq_eq_true hb
    subst hb
    split at hf
    · rename_i y0 y1 e0 e1
      exact ⟨_, (sub_cons e0 (sub_cons e1 sub_nil)), (E_M_cut_0 N n _ _ h).trans hf⟩
    · cases hf
  · skip
    cases hf
theorem hM_M_cut (N : Nat) {r : Int64 × MH} : ∀ n pc lv st h, D_M_cut N n pc lv st h = some r → pc < 36 := by
  intro n pc lv st h hf
  unfold D_M_cut at hf
  split at hf
  · rename_i hb
    rw [Nat.eq_of_beq_eq_true hb]
    decide
  · skip
    cases hf
theorem s_M_cut {l : Launch} {E : EV} {N : Nat} {as : List MV} {h : MH} {r : Int64 × MH} (hf : w_M_cut (f_M_cut N) as h = some r) : SndM l E false 0 172 as h (some (.inr (.inl r.1))) r.2 := by
  unfold w_M_cut at hf
  split at hf
  · obtain ⟨m1, m2, m3, m4⟩ := mx_M_cut
    refine snd_of (C := C_M_cut N) (own := 12) (rz := 0) (lim := 115) rJ_eq m2 m4 pl_172 (TB_in _ cw_172 rfl) ⟨(fun z => by rw [m3] at z; cases z), (fun z => by rw [m3] at z; cases z)⟩ (fun z => by cases z) KDL_take rfl rfl (fun z => by cases z) (fun z => by cases z) (fun _ => rfl) (by rw [m1]; exact Nat.le_of_ble_eq_true rfl)
      (fun _ _ _ _ z => by cases z)
      (fun _ _ _ _ z => by cases z)
      (fun _ _ _ _ z => by cases z)
      (fun _ _ _ _ z => by cases z)
      (fun p e R s m args below meth c Q n0 F hret => ?_)
    rw [m1] at F hret ⊢
    rw [mc_M_cut] at F hret
    exact cuts_s (K := 400) (M := 36) (D := D_M_cut N) (B := fun _ _ _ _ _ => none) F hret (chkT_ok chk_M_cut) (hM_M_cut N) (fun _ _ _ _ _ z => by cases z) (hD_M_cut N) N 0 _ _ _ hf
  · cases hf
def T_M_tray : List (List (Option RW)) := [
  [some (.iload_n 1, 1, [1], 0, 0), some (.invokestatic 184, 3, [2, 171, 1, 0], 0, 0), none, none, some (.ifCond .eq 22, 3, [26], 0, 0), none, none, some (.iload_n 2, 1, [2], 0, 0), some (.ifCond .lt 18, 3, [26], 0, 0), none, none, some (.iload_n 2, 1, [2], 0, 0), some (.iconst 3, 1, [], 3, 0), some (.if_icmp .gt 13, 3, [26], 0, 0), none, none, some (.iload_n 3, 1, [3], 0, 0), some (.ifCond .lt 9, 3, [26], 0, 0), none, none, some (.iload_n 3, 1, [3], 0, 0), some (.bipush 60, 2, [], 60, 0), none, some (.if_icmp .le 9, 3, [32], 0, 0), none, none, some (.aload_n 0, 1, [0], 0, 0), some (.iconst 1, 1, [], 1, 0), some (.invokevirtual 188, 3, [0, 167, 2, 0], 0, 0), none, none, some (.ireturn, 1, [], 0, 0)],
  [some (.aload_n 0, 1, [0], 0, 0), some (.getfield 13, 3, [12, 3, 2, 1, 4, 1], 0, 0), none, none, some (.iload_n 1, 1, [1], 0, 0), some (.iload_n 2, 1, [2], 0, 0), some (.iastore, 1, [], 0, 0), some (.aload_n 0, 1, [0], 0, 0), some (.getfield 17, 3, [12, 4, 2, 1, 4, 2], 0, 0), none, none, some (.iload_n 1, 1, [1], 0, 0), some (.iload_n 3, 1, [3], 0, 0), some (.iastore, 1, [], 0, 0), some (.iconst 0, 1, [], 0, 0), some (.istore 4, 2, [4], 0, 0), none, some (.iload 4, 2, [4], 0, 0), none, some (.iload_n 3, 1, [3], 0, 0), some (.if_icmp .ge 22, 3, [74], 0, 0), none, none, some (.aload_n 0, 1, [0], 0, 0), some (.getfield 20, 3, [12, 5, 2, 2, 240, 3], 0, 0), none, none, some (.bipush 60, 2, [], 60, 0), none, some (.iload_n 1, 1, [1], 0, 0), some (.imul, 1, [], 0, 0), some (.iload 4, 2, [4], 0, 0)],
  [none, some (.iadd, 1, [], 0, 0), some (.lconst 0, 1, [], 0, 0), some (.lastore, 1, [], 0, 0), some (.iinc 4 1, 3, [4], 1, 0), none, none, some (.goto (-22), 3, [49], 0, 0), none, none, some (.aload_n 0, 1, [0], 0, 0), some (.iconst 0, 1, [], 0, 0), some (.invokevirtual 188, 3, [0, 167, 2, 0], 0, 0), none, none, some (.ireturn, 1, [], 0, 0)]]
def F_M_tray_49 (N : Nat) (bk : (Int32 → Int32 → Int32 → MH → Option (Int32 × MH))) (a1 : Int32) (a3 : Int32) (a4 : Int32) (h : MH) : Option (Int32 × MH) :=
  if a3 ≤ a4 then
  ((f_M_is N 0 h).bind (fun x9 =>
  match narOK 1 x9.1 with
  | true => some (x9.1, x9.2)
  | false => none))
  else
  (if inB ((60 * a1) + a4) 240 = true then
  (let h10 : MH := sJ h 71 (iN ((60 * a1) + a4)) 0
  let v11 : Int32 := a4 + 1
  bk a1 a3 v11 h10)
  else none)
def F_M_tray_0 (N : Nat) (bk : (Int32 → Int32 → Int32 → MH → Option (Int32 × MH))) (a1 : Int32) (a2 : Int32) (a3 : Int32) (h : MH) : Option (Int32 × MH) :=
  (f_M_isTray N a1 h).bind (fun x1 =>
  if x1.1 = 0 then
  ((f_M_is N 1 x1.2).bind (fun x2 =>
  match narOK 1 x2.1 with
  | true => some (x2.1, x2.2)
  | false => none))
  else
  (if a2 < 0 then
  ((f_M_is N 1 x1.2).bind (fun x3 =>
  match narOK 1 x3.1 with
  | true => some (x3.1, x3.2)
  | false => none))
  else
  (if 3 < a2 then
  ((f_M_is N 1 x1.2).bind (fun x4 =>
  match narOK 1 x4.1 with
  | true => some (x4.1, x4.2)
  | false => none))
  else
  (if a3 < 0 then
  ((f_M_is N 1 x1.2).bind (fun x5 =>
  match narOK 1 x5.1 with
  | true => some (x5.1, x5.2)
  | false => none))
  else
  (if a3 ≤ 60 then
  (if inB a1 4 = true then
  (let h6 : MH := sI x1.2 69 (iN a1) a2
  if inB a1 4 = true then
  (let h7 : MH := sI h6 70 (iN a1) a3
  F_M_tray_49 N bk a1 a3 0 h7)
  else none)
  else none)
  else
  ((f_M_is N 1 x1.2).bind (fun x8 =>
  match narOK 1 x8.1 with
  | true => some (x8.1, x8.2)
  | false => none)))))))
def L_M_tray (N : Nat) : Nat → (Int32 → Int32 → Int32 → MH → Option (Int32 × MH))
  | 0 => fun _ _ _ _ => none
  | n + 1 => F_M_tray_49 N (L_M_tray N n)
def f_M_tray (N : Nat) (a1 : Int32) (a2 : Int32) (a3 : Int32) (h : MH) : Option (Int32 × MH) := F_M_tray_0 N (L_M_tray N N) a1 a2 a3 h
def C_M_tray (N : Nat) : MC := (KDL, false, (fun _ => 0), jsB, (fun j => match Nat.beq j 167 with
    | true => w_M_is (f_M_is N)
    | false => match Nat.beq j 171 with
    | true => w_M_isTray (f_M_isTray N)
    | false => fun _ _ => none), (fun _ _ _ => none), (fun _ _ _ => none), (fun _ _ _ => none))
def D_M_tray (N : Nat) (n pc : Nat) (lv : ML) (st : List MV) (h : MH) : Option (Int32 × MH) :=
  match Nat.beq pc 0 with
  | true => (match lk lv 0, lk lv 1, lk lv 2, lk lv 3, st with
    | some (.inr (.inr (0, 12, 68))), some (.inl a1), some (.inl a2), some (.inl a3), [] => F_M_tray_0 N (L_M_tray N n) a1 a2 a3 h
    | _, _, _, _, _ => none)
  | false => match Nat.beq pc 49 with
  | true => (match lk lv 0, lk lv 1, lk lv 3, lk lv 4, st with
    | some (.inr (.inr (0, 12, 68))), some (.inl a1), some (.inl a3), some (.inl a4), [] => F_M_tray_49 N (L_M_tray N n) a1 a3 a4 h
    | _, _, _, _, _ => none)
  | false => none
def B_M_tray (N : Nat) (n pc : Nat) (lv : ML) (st : List MV) (h : MH) : Option (Int32 × MH) :=
  match Nat.beq pc 49 with
  | true => (match lk lv 0, lk lv 1, lk lv 3, lk lv 4, st with
    | some (.inr (.inr (0, 12, 68))), some (.inl a1), some (.inl a3), some (.inl a4), [] => ((L_M_tray N n)) a1 a3 a4 h
    | _, _, _, _, _ => none)
  | false => none
set_option maxRecDepth 1000000 in
theorem E_M_tray_0 (N : Nat) (n : Nat) (a1 : Int32) (a2 : Int32) (a3 : Int32) (h : MH) : seg (C_M_tray N) 5 1 rI T_M_tray [0, 49] (fun q lv st h => match Nat.ble 1 q with
    | true => D_M_tray N n q lv st h
    | false => B_M_tray N n q lv st h) 400 true 0 [(0, .inr (.inr (0, 12, 68))), (1, .inl a1), (2, .inl a2), (3, .inl a3)] [] h = F_M_tray_0 N (L_M_tray N n) a1 a2 a3 h := (rfl)
set_option maxRecDepth 1000000 in
theorem E_M_tray_49 (N : Nat) (n : Nat) (a1 : Int32) (a3 : Int32) (a4 : Int32) (h : MH) : seg (C_M_tray N) 5 1 rI T_M_tray [0, 49] (fun q lv st h => match Nat.ble 50 q with
    | true => D_M_tray N n q lv st h
    | false => B_M_tray N n q lv st h) 400 true 49 [(0, .inr (.inr (0, 12, 68))), (1, .inl a1), (3, .inl a3), (4, .inl a4)] [] h = F_M_tray_49 N (L_M_tray N n) a1 a3 a4 h := (rfl)
set_option maxRecDepth 1000000 in
theorem chk_M_tray : chkT 12 false prog_14_method_11_code T_M_tray = true := by decide +kernel
theorem mc_M_tray : mC 173 = prog_14_method_11_code := by rfl
theorem mx_M_tray : mL 173 = 5 ∧ mR 173 = some .boolean ∧ mK 173 = 1 ∧ (mN 173).cls = cN 12 := by decide +kernel
theorem hD_M_tray (N : Nat) {r : Int32 × MH} : ∀ n pc lv st h, D_M_tray N n pc lv st h = some r → ∃ lv', (∀ q ∈ lv', q ∈ lv) ∧ seg (C_M_tray N) 5 1 rI T_M_tray [0, 49] (fun q lv st h => match Nat.ble (pc + 1) q with
    | true => D_M_tray N n q lv st h
    | false => B_M_tray N n q lv st h) 400 true pc lv' st h = some r := by
  intro n pc lv st h hf
  unfold D_M_tray at hf
  split at hf
  · rename_i hb
    have hb := Nat.eq_of_beq_eq_true hb
    subst hb
    split at hf
    · rename_i y0 y1 y2 e0 e1 e2 e3
      exact ⟨_, (sub_cons e0 (sub_cons e1 (sub_cons e2 (sub_cons e3 sub_nil)))), (E_M_tray_0 N n _ _ _ h).trans hf⟩
    · cases hf
  · skip
    split at hf
    · rename_i hb
      have hb := Nat.eq_of_beq_eq_true hb
      subst hb
      split at hf
      · rename_i y0 y1 y2 e0 e1 e2 e3
        exact ⟨_, (sub_cons e0 (sub_cons e1 (sub_cons e2 (sub_cons e3 sub_nil)))), (E_M_tray_49 N n _ _ _ h).trans hf⟩
      · cases hf
    · skip
      cases hf
theorem hM_M_tray (N : Nat) {r : Int32 × MH} : ∀ n pc lv st h, D_M_tray N n pc lv st h = some r → pc < 80 := by
  intro n pc lv st h hf
  unfold D_M_tray at hf
  split at hf
  · rename_i hb
    rw [Nat.eq_of_beq_eq_true hb]
    decide
  · skip
    split at hf
    · rename_i hb
      rw [Nat.eq_of_beq_eq_true hb]
      decide
    · skip
      cases hf
theorem hB_M_tray (N : Nat) {r : Int32 × MH} : ∀ n pc lv st h, B_M_tray N n pc lv st h = some r → ∃ k, n = k + 1 ∧ D_M_tray N k pc lv st h = some r := by
  intro n pc lv st h hf
  unfold B_M_tray at hf
  split at hf
  · rename_i hb
    have hb := Nat.eq_of_beq_eq_true hb
    subst hb
    cases n with
    | zero =>
      split at hf
      · cases hf
      · cases hf
    | succ k =>
      refine ⟨k, rfl, ?_⟩
      exact hf
  · skip
    cases hf
theorem s_M_tray {l : Launch} {E : EV} {N : Nat} {as : List MV} {h : MH} {r : Int32 × MH} (hf : w_M_tray (f_M_tray N) as h = some r) : SndM l E false 1 173 as h (some (.inl r.1)) r.2 := by
  unfold w_M_tray at hf
  split at hf
  · obtain ⟨m1, m2, m3, m4⟩ := mx_M_tray
    refine snd_of (C := C_M_tray N) (own := 12) (rz := 1) (lim := 115) rI_eq m2 m4 pl_173 (TB_in _ cw_173 rfl) ⟨(fun _ => ⟨_, _, _, _, _, _, rfl, rfl, by rw [m4]; rfl⟩), (fun z => by rw [m3] at z; cases z)⟩ (fun z => by cases z) KDL_take rfl rfl (fun z => by cases z) (fun z => by cases z) (fun _ => rfl) (by rw [m1]; exact Nat.le_of_ble_eq_true rfl)
      (fun j as h x z => by
      dsimp only [C_M_tray] at z
      cases hb : Nat.beq j 167 with
      | true =>
        have hb := Nat.eq_of_beq_eq_true hb
        subst hb
        exact ⟨0, by decide, (fun z => by cases z), s_M_is z⟩
      | false =>
        rw [hb] at z
        dsimp only at z
        cases hb : Nat.beq j 171 with
        | true =>
          have hb := Nat.eq_of_beq_eq_true hb
          subst hb
          exact ⟨0, by decide, (fun z => by cases z), s_M_isTray z⟩
        | false =>
          rw [hb] at z
          dsimp only at z
          cases z)
      (fun _ _ _ _ z => by cases z)
      (fun _ _ _ _ z => by cases z)
      (fun _ _ _ _ z => by cases z)
      (fun p e R s m args below meth c Q n0 F hret => ?_)
    rw [m1] at F hret ⊢
    rw [mc_M_tray] at F hret
    exact cuts_s (K := 400) (M := 80) (D := D_M_tray N) (B := B_M_tray N) F hret (chkT_ok chk_M_tray) (hM_M_tray N) (hB_M_tray N) (hD_M_tray N) N 0 _ _ _ hf
  · cases hf
def T_M_wrongPlace : List (List (Option RW)) := [
  [some (.iload_n 1, 1, [1], 0, 0), some (.invokestatic 184, 3, [2, 171, 1, 0], 0, 0), none, none, some (.ifCond .ne 7, 3, [11], 0, 0), none, none, some (.iconst 1, 1, [], 1, 0), some (.goto 36, 3, [44], 0, 0), none, none, some (.aload_n 0, 1, [0], 0, 0), some (.getfield 17, 3, [12, 4, 2, 1, 4, 2], 0, 0), none, none, some (.iload_n 1, 1, [1], 0, 0), some (.iaload, 1, [], 0, 0), some (.iconst (-1), 1, [], (-1), 0), some (.if_icmp .ne 7, 3, [25], 0, 0), none, none, some (.iconst 2, 1, [], 2, 0), some (.goto 22, 3, [44], 0, 0), none, none, some (.iload_n 2, 1, [2], 0, 0), some (.ifCond .lt 13, 3, [39], 0, 0), none, none, some (.iload_n 2, 1, [2], 0, 0), some (.aload_n 0, 1, [0], 0, 0), some (.getfield 17, 3, [12, 4, 2, 1, 4, 2], 0, 0)],
  [none, none, some (.iload_n 1, 1, [1], 0, 0), some (.iaload, 1, [], 0, 0), some (.if_icmp .lt 7, 3, [43], 0, 0), none, none, some (.iconst 3, 1, [], 3, 0), some (.goto 4, 3, [44], 0, 0), none, none, some (.iconst 0, 1, [], 0, 0), some (.ireturn, 1, [], 0, 0)]]
def f_M_wrongPlace (N : Nat) (a1 : Int32) (a2 : Int32) (h : MH) : Option (Int32 × MH) :=
  (f_M_isTray N a1 h).bind (fun x1 =>
  if x1.1 = 0 then
  (some (1, x1.2))
  else
  (if inB a1 4 = true then
  (if (gI x1.2 70 (iN a1)) = ((-1)) then
  (some (2, x1.2))
  else
  (if a2 < 0 then
  (some (3, x1.2))
  else
  (if inB a1 4 = true then
  (if a2 < (gI x1.2 70 (iN a1)) then
  (some (0, x1.2))
  else
  (some (3, x1.2)))
  else none)))
  else none))
def C_M_wrongPlace (N : Nat) : MC := (KDL, false, (fun _ => 0), jsB, (fun j => match Nat.beq j 171 with
    | true => w_M_isTray (f_M_isTray N)
    | false => fun _ _ => none), (fun _ _ _ => none), (fun _ _ _ => none), (fun _ _ _ => none))
def D_M_wrongPlace (N : Nat) (n pc : Nat) (lv : ML) (st : List MV) (h : MH) : Option (Int32 × MH) :=
  match Nat.beq pc 0 with
  | true => (match lk lv 0, lk lv 1, lk lv 2, st with
    | some (.inr (.inr (0, 12, 68))), some (.inl a1), some (.inl a2), [] => f_M_wrongPlace N a1 a2 h
    | _, _, _, _ => none)
  | false => none
set_option maxRecDepth 1000000 in
theorem E_M_wrongPlace_0 (N : Nat) (n : Nat) (a1 : Int32) (a2 : Int32) (h : MH) : seg (C_M_wrongPlace N) 3 0 rI T_M_wrongPlace [0] (fun q lv st h => match Nat.ble 1 q with
    | true => D_M_wrongPlace N n q lv st h
    | false => none) 400 true 0 [(0, .inr (.inr (0, 12, 68))), (1, .inl a1), (2, .inl a2)] [] h = f_M_wrongPlace N a1 a2 h := (rfl)
set_option maxRecDepth 1000000 in
theorem chk_M_wrongPlace : chkT 12 false prog_14_method_12_code T_M_wrongPlace = true := by decide +kernel
theorem mc_M_wrongPlace : mC 174 = prog_14_method_12_code := by rfl
theorem mx_M_wrongPlace : mL 174 = 3 ∧ mR 174 = some .int ∧ mK 174 = 1 ∧ (mN 174).cls = cN 12 := by decide +kernel
theorem hD_M_wrongPlace (N : Nat) {r : Int32 × MH} : ∀ n pc lv st h, D_M_wrongPlace N n pc lv st h = some r → ∃ lv', (∀ q ∈ lv', q ∈ lv) ∧ seg (C_M_wrongPlace N) 3 0 rI T_M_wrongPlace [0] (fun q lv st h => match Nat.ble (pc + 1) q with
    | true => D_M_wrongPlace N n q lv st h
    | false => none) 400 true pc lv' st h = some r := by
  intro n pc lv st h hf
  unfold D_M_wrongPlace at hf
  split at hf
  · rename_i hb
    have hb := Nat.eq_of_beq_eq_true hb
    subst hb
    split at hf
    · rename_i y0 y1 e0 e1 e2
      exact ⟨_, (sub_cons e0 (sub_cons e1 (sub_cons e2 sub_nil))), (E_M_wrongPlace_0 N n _ _ h).trans hf⟩
    · cases hf
  · skip
    cases hf
theorem hM_M_wrongPlace (N : Nat) {r : Int32 × MH} : ∀ n pc lv st h, D_M_wrongPlace N n pc lv st h = some r → pc < 45 := by
  intro n pc lv st h hf
  unfold D_M_wrongPlace at hf
  split at hf
  · rename_i hb
    rw [Nat.eq_of_beq_eq_true hb]
    decide
  · skip
    cases hf
theorem s_M_wrongPlace {l : Launch} {E : EV} {N : Nat} {as : List MV} {h : MH} {r : Int32 × MH} (hf : w_M_wrongPlace (f_M_wrongPlace N) as h = some r) : SndM l E false 1 174 as h (some (.inl r.1)) r.2 := by
  unfold w_M_wrongPlace at hf
  split at hf
  · obtain ⟨m1, m2, m3, m4⟩ := mx_M_wrongPlace
    refine snd_of (C := C_M_wrongPlace N) (own := 12) (rz := 0) (lim := 115) rI_eq m2 m4 pl_174 (TB_in _ cw_174 rfl) ⟨(fun _ => ⟨_, _, _, _, _, _, rfl, rfl, by rw [m4]; rfl⟩), (fun z => by rw [m3] at z; cases z)⟩ (fun z => by cases z) KDL_take rfl rfl (fun z => by cases z) (fun z => by cases z) (fun _ => rfl) (by rw [m1]; exact Nat.le_of_ble_eq_true rfl)
      (fun j as h x z => by
      dsimp only [C_M_wrongPlace] at z
      cases hb : Nat.beq j 171 with
      | true =>
        have hb := Nat.eq_of_beq_eq_true hb
        subst hb
        exact ⟨0, by decide, (fun z => by cases z), s_M_isTray z⟩
      | false =>
        rw [hb] at z
        dsimp only at z
        cases z)
      (fun _ _ _ _ z => by cases z)
      (fun _ _ _ _ z => by cases z)
      (fun _ _ _ _ z => by cases z)
      (fun p e R s m args below meth c Q n0 F hret => ?_)
    rw [m1] at F hret ⊢
    rw [mc_M_wrongPlace] at F hret
    exact cuts_s (K := 400) (M := 45) (D := D_M_wrongPlace N) (B := fun _ _ _ _ _ => none) F hret (chkT_ok chk_M_wrongPlace) (hM_M_wrongPlace N) (fun _ _ _ _ _ z => by cases z) (hD_M_wrongPlace N) N 0 _ _ _ hf
  · cases hf
def T_M_write : List (List (Option RW)) := [
  [some (.aload_n 0, 1, [0], 0, 0), some (.iload_n 1, 1, [1], 0, 0), some (.iload_n 2, 1, [2], 0, 0), some (.invokevirtual 191, 3, [0, 174, 3, 0], 0, 0), none, none, some (.istore 5, 2, [5], 0, 0), none, some (.iload 5, 2, [5], 0, 0), none, some (.ifCond .ne 24, 3, [34], 0, 0), none, none, some (.aload_n 0, 1, [0], 0, 0), some (.getfield 20, 3, [12, 5, 2, 2, 240, 3], 0, 0), none, none, some (.bipush 60, 2, [], 60, 0), none, some (.iload_n 1, 1, [1], 0, 0), some (.imul, 1, [], 0, 0), some (.iload_n 2, 1, [2], 0, 0), some (.iadd, 1, [], 0, 0), some (.lload_n 3, 1, [3], 0, 0), some (.aload_n 0, 1, [0], 0, 0), some (.getfield 13, 3, [12, 3, 2, 1, 4, 1], 0, 0), none, none, some (.iload_n 1, 1, [1], 0, 0), some (.iaload, 1, [], 0, 0), some (.invokestatic 195, 3, [2, 172, 2, 1], 0, 0), none],
  [none, some (.lastore, 1, [], 0, 0), some (.aload_n 0, 1, [0], 0, 0), some (.iload 5, 2, [5], 0, 0), none, some (.invokevirtual 188, 3, [0, 167, 2, 0], 0, 0), none, none, some (.ireturn, 1, [], 0, 0)]]
def f_M_write (N : Nat) (a1 : Int32) (a2 : Int32) (a3 : Int64) (h : MH) : Option (Int32 × MH) :=
  (f_M_wrongPlace N a1 a2 h).bind (fun x1 =>
  if x1.1 = 0 then
  (if inB a1 4 = true then
  ((f_M_cut N a3 (gI x1.2 69 (iN a1)) x1.2).bind (fun x2 =>
  if inB ((60 * a1) + a2) 240 = true then
  (let h3 : MH := sJ x2.2 71 (iN ((60 * a1) + a2)) x2.1
  (f_M_is N x1.1 h3).bind (fun x4 =>
  match narOK 1 x4.1 with
  | true => some (x4.1, x4.2)
  | false => none))
  else none))
  else none)
  else
  ((f_M_is N x1.1 x1.2).bind (fun x5 =>
  match narOK 1 x5.1 with
  | true => some (x5.1, x5.2)
  | false => none)))
def C_M_write (N : Nat) : MC := (KDL, false, (fun _ => 0), jsB, (fun j => match Nat.beq j 167 with
    | true => w_M_is (f_M_is N)
    | false => match Nat.beq j 174 with
    | true => w_M_wrongPlace (f_M_wrongPlace N)
    | false => fun _ _ => none), (fun j => match Nat.beq j 172 with
    | true => w_M_cut (f_M_cut N)
    | false => fun _ _ => none), (fun _ _ _ => none), (fun _ _ _ => none))
def D_M_write (N : Nat) (n pc : Nat) (lv : ML) (st : List MV) (h : MH) : Option (Int32 × MH) :=
  match Nat.beq pc 0 with
  | true => (match lk lv 0, lk lv 1, lk lv 2, lk lv 3, st with
    | some (.inr (.inr (0, 12, 68))), some (.inl a1), some (.inl a2), some (.inr (.inl a3)), [] => f_M_write N a1 a2 a3 h
    | _, _, _, _, _ => none)
  | false => none
set_option maxRecDepth 1000000 in
theorem E_M_write_0 (N : Nat) (n : Nat) (a1 : Int32) (a2 : Int32) (a3 : Int64) (h : MH) : seg (C_M_write N) 6 1 rI T_M_write [0] (fun q lv st h => match Nat.ble 1 q with
    | true => D_M_write N n q lv st h
    | false => none) 400 true 0 [(0, .inr (.inr (0, 12, 68))), (1, .inl a1), (2, .inl a2), (3, .inr (.inl a3))] [] h = f_M_write N a1 a2 a3 h := (rfl)
set_option maxRecDepth 1000000 in
theorem chk_M_write : chkT 12 false prog_14_method_13_code T_M_write = true := by decide +kernel
theorem mc_M_write : mC 175 = prog_14_method_13_code := by rfl
theorem mx_M_write : mL 175 = 6 ∧ mR 175 = some .boolean ∧ mK 175 = 1 ∧ (mN 175).cls = cN 12 := by decide +kernel
theorem hD_M_write (N : Nat) {r : Int32 × MH} : ∀ n pc lv st h, D_M_write N n pc lv st h = some r → ∃ lv', (∀ q ∈ lv', q ∈ lv) ∧ seg (C_M_write N) 6 1 rI T_M_write [0] (fun q lv st h => match Nat.ble (pc + 1) q with
    | true => D_M_write N n q lv st h
    | false => none) 400 true pc lv' st h = some r := by
  intro n pc lv st h hf
  unfold D_M_write at hf
  split at hf
  · rename_i hb
    have hb := Nat.eq_of_beq_eq_true hb
    subst hb
    split at hf
    · rename_i y0 y1 y2 e0 e1 e2 e3
      exact ⟨_, (sub_cons e0 (sub_cons e1 (sub_cons e2 (sub_cons e3 sub_nil)))), (E_M_write_0 N n _ _ _ h).trans hf⟩
    · cases hf
  · skip
    cases hf
theorem hM_M_write (N : Nat) {r : Int32 × MH} : ∀ n pc lv st h, D_M_write N n pc lv st h = some r → pc < 41 := by
  intro n pc lv st h hf
  unfold D_M_write at hf
  split at hf
  · rename_i hb
    rw [Nat.eq_of_beq_eq_true hb]
    decide
  · skip
    cases hf
theorem s_M_write {l : Launch} {E : EV} {N : Nat} {as : List MV} {h : MH} {r : Int32 × MH} (hf : w_M_write (f_M_write N) as h = some r) : SndM l E false 2 175 as h (some (.inl r.1)) r.2 := by
  unfold w_M_write at hf
  split at hf
  · obtain ⟨m1, m2, m3, m4⟩ := mx_M_write
    refine snd_of (C := C_M_write N) (own := 12) (rz := 1) (lim := 115) rI_eq m2 m4 pl_175 (TB_in _ cw_175 rfl) ⟨(fun _ => ⟨_, _, _, _, _, _, rfl, rfl, by rw [m4]; rfl⟩), (fun z => by rw [m3] at z; cases z)⟩ (fun z => by cases z) KDL_take rfl rfl (fun z => by cases z) (fun z => by cases z) (fun _ => rfl) (by rw [m1]; exact Nat.le_of_ble_eq_true rfl)
      (fun j as h x z => by
      dsimp only [C_M_write] at z
      cases hb : Nat.beq j 167 with
      | true =>
        have hb := Nat.eq_of_beq_eq_true hb
        subst hb
        exact ⟨0, by decide, (fun z => by cases z), s_M_is z⟩
      | false =>
        rw [hb] at z
        dsimp only at z
        cases hb : Nat.beq j 174 with
        | true =>
          have hb := Nat.eq_of_beq_eq_true hb
          subst hb
          exact ⟨1, by decide, (fun z => by cases z), s_M_wrongPlace z⟩
        | false =>
          rw [hb] at z
          dsimp only at z
          cases z)
      (fun j as h x z => by
      dsimp only [C_M_write] at z
      cases hb : Nat.beq j 172 with
      | true =>
        have hb := Nat.eq_of_beq_eq_true hb
        subst hb
        exact ⟨0, by decide, (fun z => by cases z), s_M_cut z⟩
      | false =>
        rw [hb] at z
        dsimp only at z
        cases z)
      (fun _ _ _ _ z => by cases z)
      (fun _ _ _ _ z => by cases z)
      (fun p e R s m args below meth c Q n0 F hret => ?_)
    rw [m1] at F hret ⊢
    rw [mc_M_write] at F hret
    exact cuts_s (K := 400) (M := 41) (D := D_M_write N) (B := fun _ _ _ _ _ => none) F hret (chkT_ok chk_M_write) (hM_M_write N) (fun _ _ _ _ _ z => by cases z) (hD_M_write N) N 0 _ _ _ hf
  · cases hf
def T_M_read : List (List (Option RW)) := [
  [some (.aload_n 0, 1, [0], 0, 0), some (.aload_n 0, 1, [0], 0, 0), some (.iload_n 1, 1, [1], 0, 0), some (.iload_n 2, 1, [2], 0, 0), some (.invokevirtual 191, 3, [0, 174, 3, 0], 0, 0), none, none, some (.putfield 174, 3, [12, 0, 0], 0, 0), none, none, some (.aload_n 0, 1, [0], 0, 0), some (.getfield 174, 3, [12, 0, 0], 0, 0), none, none, some (.ifCond .le 9, 3, [23], 0, 0), none, none, some (.ldc2_w 199, 3, [], 0, (-1)), none, none, some (.goto 14, 3, [34], 0, 0), none, none, some (.aload_n 0, 1, [0], 0, 0), some (.getfield 20, 3, [12, 5, 2, 2, 240, 3], 0, 0), none, none, some (.bipush 60, 2, [], 60, 0), none, some (.iload_n 1, 1, [1], 0, 0), some (.imul, 1, [], 0, 0), some (.iload_n 2, 1, [2], 0, 0)],
  [some (.iadd, 1, [], 0, 0), some (.laload, 1, [], 0, 0), some (.lreturn, 1, [], 0, 0)]]
def f_M_read (N : Nat) (a1 : Int32) (a2 : Int32) (h : MH) : Option (Int64 × MH) :=
  (f_M_wrongPlace N a1 a2 h).bind (fun x1 =>
  let h2 : MH := sI x1.2 68 0 x1.1
  if (gI h2 68 0) ≤ 0 then
  (if inB ((60 * a1) + a2) 240 = true then
  (some (gJ h2 71 (iN ((60 * a1) + a2)), h2))
  else none)
  else
  (some ((-1), h2)))
def C_M_read (N : Nat) : MC := (KDL, false, (fun _ => 0), jsB, (fun j => match Nat.beq j 174 with
    | true => w_M_wrongPlace (f_M_wrongPlace N)
    | false => fun _ _ => none), (fun _ _ _ => none), (fun _ _ _ => none), (fun _ _ _ => none))
def D_M_read (N : Nat) (n pc : Nat) (lv : ML) (st : List MV) (h : MH) : Option (Int64 × MH) :=
  match Nat.beq pc 0 with
  | true => (match lk lv 0, lk lv 1, lk lv 2, st with
    | some (.inr (.inr (0, 12, 68))), some (.inl a1), some (.inl a2), [] => f_M_read N a1 a2 h
    | _, _, _, _ => none)
  | false => none
set_option maxRecDepth 1000000 in
theorem E_M_read_0 (N : Nat) (n : Nat) (a1 : Int32) (a2 : Int32) (h : MH) : seg (C_M_read N) 3 0 rJ T_M_read [0] (fun q lv st h => match Nat.ble 1 q with
    | true => D_M_read N n q lv st h
    | false => none) 400 true 0 [(0, .inr (.inr (0, 12, 68))), (1, .inl a1), (2, .inl a2)] [] h = f_M_read N a1 a2 h := (rfl)
set_option maxRecDepth 1000000 in
theorem chk_M_read : chkT 12 false prog_14_method_14_code T_M_read = true := by decide +kernel
theorem mc_M_read : mC 176 = prog_14_method_14_code := by rfl
theorem mx_M_read : mL 176 = 3 ∧ mR 176 = some .long ∧ mK 176 = 1 ∧ (mN 176).cls = cN 12 := by decide +kernel
theorem hD_M_read (N : Nat) {r : Int64 × MH} : ∀ n pc lv st h, D_M_read N n pc lv st h = some r → ∃ lv', (∀ q ∈ lv', q ∈ lv) ∧ seg (C_M_read N) 3 0 rJ T_M_read [0] (fun q lv st h => match Nat.ble (pc + 1) q with
    | true => D_M_read N n q lv st h
    | false => none) 400 true pc lv' st h = some r := by
  intro n pc lv st h hf
  unfold D_M_read at hf
  split at hf
  · rename_i hb
    have hb := Nat.eq_of_beq_eq_true hb
    subst hb
    split at hf
    · rename_i y0 y1 e0 e1 e2
      exact ⟨_, (sub_cons e0 (sub_cons e1 (sub_cons e2 sub_nil))), (E_M_read_0 N n _ _ h).trans hf⟩
    · cases hf
  · skip
    cases hf
theorem hM_M_read (N : Nat) {r : Int64 × MH} : ∀ n pc lv st h, D_M_read N n pc lv st h = some r → pc < 35 := by
  intro n pc lv st h hf
  unfold D_M_read at hf
  split at hf
  · rename_i hb
    rw [Nat.eq_of_beq_eq_true hb]
    decide
  · skip
    cases hf
theorem s_M_read {l : Launch} {E : EV} {N : Nat} {as : List MV} {h : MH} {r : Int64 × MH} (hf : w_M_read (f_M_read N) as h = some r) : SndM l E false 2 176 as h (some (.inr (.inl r.1))) r.2 := by
  unfold w_M_read at hf
  split at hf
  · obtain ⟨m1, m2, m3, m4⟩ := mx_M_read
    refine snd_of (C := C_M_read N) (own := 12) (rz := 0) (lim := 115) rJ_eq m2 m4 pl_176 (TB_in _ cw_176 rfl) ⟨(fun _ => ⟨_, _, _, _, _, _, rfl, rfl, by rw [m4]; rfl⟩), (fun z => by rw [m3] at z; cases z)⟩ (fun z => by cases z) KDL_take rfl rfl (fun z => by cases z) (fun z => by cases z) (fun _ => rfl) (by rw [m1]; exact Nat.le_of_ble_eq_true rfl)
      (fun j as h x z => by
      dsimp only [C_M_read] at z
      cases hb : Nat.beq j 174 with
      | true =>
        have hb := Nat.eq_of_beq_eq_true hb
        subst hb
        exact ⟨1, by decide, (fun z => by cases z), s_M_wrongPlace z⟩
      | false =>
        rw [hb] at z
        dsimp only at z
        cases z)
      (fun _ _ _ _ z => by cases z)
      (fun _ _ _ _ z => by cases z)
      (fun _ _ _ _ z => by cases z)
      (fun p e R s m args below meth c Q n0 F hret => ?_)
    rw [m1] at F hret ⊢
    rw [mc_M_read] at F hret
    exact cuts_s (K := 400) (M := 35) (D := D_M_read N) (B := fun _ _ _ _ _ => none) F hret (chkT_ok chk_M_read) (hM_M_read N) (fun _ _ _ _ _ z => by cases z) (hD_M_read N) N 0 _ _ _ hf
  · cases hf
def T_M_pour : List (List (Option RW)) := [
  [some (.iload_n 1, 1, [1], 0, 0), some (.invokestatic 184, 3, [2, 171, 1, 0], 0, 0), none, none, some (.ifCond .eq 24, 3, [28], 0, 0), none, none, some (.iload_n 3, 1, [3], 0, 0), some (.invokestatic 184, 3, [2, 171, 1, 0], 0, 0), none, none, some (.ifCond .eq 17, 3, [28], 0, 0), none, none, some (.iload_n 2, 1, [2], 0, 0), some (.ifCond .lt 13, 3, [28], 0, 0), none, none, some (.iload 4, 2, [4], 0, 0), none, some (.ifCond .lt 8, 3, [28], 0, 0), none, none, some (.iload 5, 2, [5], 0, 0), none, some (.ifCond .ge 9, 3, [34], 0, 0), none, none, some (.aload_n 0, 1, [0], 0, 0), some (.iconst 1, 1, [], 1, 0), some (.invokevirtual 188, 3, [0, 167, 2, 0], 0, 0), none],
  [none, some (.ireturn, 1, [], 0, 0), some (.aload_n 0, 1, [0], 0, 0), some (.getfield 17, 3, [12, 4, 2, 1, 4, 2], 0, 0), none, none, some (.iload_n 1, 1, [1], 0, 0), some (.iaload, 1, [], 0, 0), some (.iconst (-1), 1, [], (-1), 0), some (.if_icmp .eq 13, 3, [54], 0, 0), none, none, some (.aload_n 0, 1, [0], 0, 0), some (.getfield 17, 3, [12, 4, 2, 1, 4, 2], 0, 0), none, none, some (.iload_n 3, 1, [3], 0, 0), some (.iaload, 1, [], 0, 0), some (.iconst (-1), 1, [], (-1), 0), some (.if_icmp .ne 9, 3, [60], 0, 0), none, none, some (.aload_n 0, 1, [0], 0, 0), some (.iconst 2, 1, [], 2, 0), some (.invokevirtual 188, 3, [0, 167, 2, 0], 0, 0), none, none, some (.ireturn, 1, [], 0, 0), some (.aload_n 0, 1, [0], 0, 0), some (.getfield 13, 3, [12, 3, 2, 1, 4, 1], 0, 0), none, none],
  [some (.iload_n 1, 1, [1], 0, 0), some (.iaload, 1, [], 0, 0), some (.aload_n 0, 1, [0], 0, 0), some (.getfield 13, 3, [12, 3, 2, 1, 4, 1], 0, 0), none, none, some (.iload_n 3, 1, [3], 0, 0), some (.iaload, 1, [], 0, 0), some (.if_icmp .eq 10, 3, [82], 0, 0), none, none, some (.aload_n 0, 1, [0], 0, 0), some (.bipush 8, 2, [], 8, 0), none, some (.invokevirtual 188, 3, [0, 167, 2, 0], 0, 0), none, none, some (.ireturn, 1, [], 0, 0), some (.iload 5, 2, [5], 0, 0), none, some (.aload_n 0, 1, [0], 0, 0), some (.getfield 17, 3, [12, 4, 2, 1, 4, 2], 0, 0), none, none, some (.iload_n 1, 1, [1], 0, 0), some (.iaload, 1, [], 0, 0), some (.iload_n 2, 1, [2], 0, 0), some (.isub, 1, [], 0, 0), some (.if_icmp .gt 17, 3, [109], 0, 0), none, none, some (.iload 5, 2, [5], 0, 0)],
  [none, some (.aload_n 0, 1, [0], 0, 0), some (.getfield 17, 3, [12, 4, 2, 1, 4, 2], 0, 0), none, none, some (.iload_n 3, 1, [3], 0, 0), some (.iaload, 1, [], 0, 0), some (.iload 4, 2, [4], 0, 0), none, some (.isub, 1, [], 0, 0), some (.if_icmp .le 9, 3, [115], 0, 0), none, none, some (.aload_n 0, 1, [0], 0, 0), some (.iconst 3, 1, [], 3, 0), some (.invokevirtual 188, 3, [0, 167, 2, 0], 0, 0), none, none, some (.ireturn, 1, [], 0, 0), some (.iconst 0, 1, [], 0, 0), some (.istore 6, 2, [6], 0, 0), none, some (.iload 6, 2, [6], 0, 0), none, some (.iload 5, 2, [5], 0, 0), none, some (.if_icmp .ge 58, 3, [180], 0, 0), none, none, some (.iload_n 2, 1, [2], 0, 0), some (.iload 4, 2, [4], 0, 0), none],
  [some (.if_icmp .ge 13, 3, [141], 0, 0), none, none, some (.iload 5, 2, [5], 0, 0), none, some (.iconst 1, 1, [], 1, 0), some (.isub, 1, [], 0, 0), some (.iload 6, 2, [6], 0, 0), none, some (.isub, 1, [], 0, 0), some (.goto 5, 3, [143], 0, 0), none, none, some (.iload 6, 2, [6], 0, 0), none, some (.istore 7, 2, [7], 0, 0), none, some (.aload_n 0, 1, [0], 0, 0), some (.getfield 20, 3, [12, 5, 2, 2, 240, 3], 0, 0), none, none, some (.bipush 60, 2, [], 60, 0), none, some (.iload_n 3, 1, [3], 0, 0), some (.imul, 1, [], 0, 0), some (.iload 4, 2, [4], 0, 0), none, some (.iadd, 1, [], 0, 0), some (.iload 7, 2, [7], 0, 0), none, some (.iadd, 1, [], 0, 0), some (.aload_n 0, 1, [0], 0, 0)],
  [some (.getfield 20, 3, [12, 5, 2, 2, 240, 3], 0, 0), none, none, some (.bipush 60, 2, [], 60, 0), none, some (.iload_n 1, 1, [1], 0, 0), some (.imul, 1, [], 0, 0), some (.iload_n 2, 1, [2], 0, 0), some (.iadd, 1, [], 0, 0), some (.iload 7, 2, [7], 0, 0), none, some (.iadd, 1, [], 0, 0), some (.laload, 1, [], 0, 0), some (.lastore, 1, [], 0, 0), some (.iinc 6 1, 3, [6], 1, 0), none, none, some (.goto (-59), 3, [118], 0, 0), none, none, some (.aload_n 0, 1, [0], 0, 0), some (.iconst 0, 1, [], 0, 0), some (.invokevirtual 188, 3, [0, 167, 2, 0], 0, 0), none, none, some (.ireturn, 1, [], 0, 0)]]
def F_M_pour_143 (N : Nat) (bk : (Int32 → Int32 → Int32 → Int32 → Int32 → Int32 → MH → Option (Int32 × MH))) (a1 : Int32) (a2 : Int32) (a3 : Int32) (a4 : Int32) (a5 : Int32) (a6 : Int32) (as0 : Int32) (h : MH) : Option (Int32 × MH) :=
  if inB (((60 * a1) + a2) + as0) 240 = true then
  (if inB (((60 * a3) + a4) + as0) 240 = true then
  (let h14 : MH := sJ h 71 (iN (((60 * a3) + a4) + as0)) (gJ h 71 (iN (((60 * a1) + a2) + as0)))
  let v15 : Int32 := a6 + 1
  bk a1 a2 a3 a4 a5 v15 h14)
  else none)
  else none
def F_M_pour_118 (N : Nat) (bk : (Int32 → Int32 → Int32 → Int32 → Int32 → Int32 → MH → Option (Int32 × MH))) (a1 : Int32) (a2 : Int32) (a3 : Int32) (a4 : Int32) (a5 : Int32) (a6 : Int32) (h : MH) : Option (Int32 × MH) :=
  if a5 ≤ a6 then
  ((f_M_is N 0 h).bind (fun x13 =>
  match narOK 1 x13.1 with
  | true => some (x13.1, x13.2)
  | false => none))
  else
  (if a4 ≤ a2 then
  (F_M_pour_143 N bk a1 a2 a3 a4 a5 a6 a6 h)
  else
  (F_M_pour_143 N bk a1 a2 a3 a4 a5 a6 ((a5 - 1) - a6) h))
def F_M_pour_0 (N : Nat) (bk : (Int32 → Int32 → Int32 → Int32 → Int32 → Int32 → MH → Option (Int32 × MH))) (a1 : Int32) (a2 : Int32) (a3 : Int32) (a4 : Int32) (a5 : Int32) (h : MH) : Option (Int32 × MH) :=
  (f_M_isTray N a1 h).bind (fun x1 =>
  if x1.1 = 0 then
  ((f_M_is N 1 x1.2).bind (fun x2 =>
  match narOK 1 x2.1 with
  | true => some (x2.1, x2.2)
  | false => none))
  else
  ((f_M_isTray N a3 x1.2).bind (fun x3 =>
  if x3.1 = 0 then
  ((f_M_is N 1 x3.2).bind (fun x4 =>
  match narOK 1 x4.1 with
  | true => some (x4.1, x4.2)
  | false => none))
  else
  (if a2 < 0 then
  ((f_M_is N 1 x3.2).bind (fun x5 =>
  match narOK 1 x5.1 with
  | true => some (x5.1, x5.2)
  | false => none))
  else
  (if a4 < 0 then
  ((f_M_is N 1 x3.2).bind (fun x6 =>
  match narOK 1 x6.1 with
  | true => some (x6.1, x6.2)
  | false => none))
  else
  (if 0 ≤ a5 then
  (if inB a1 4 = true then
  (if (gI x3.2 70 (iN a1)) = ((-1)) then
  ((f_M_is N 2 x3.2).bind (fun x7 =>
  match narOK 1 x7.1 with
  | true => some (x7.1, x7.2)
  | false => none))
  else
  (if inB a3 4 = true then
  (if (gI x3.2 70 (iN a3)) = ((-1)) then
  ((f_M_is N 2 x3.2).bind (fun x8 =>
  match narOK 1 x8.1 with
  | true => some (x8.1, x8.2)
  | false => none))
  else
  (if inB a1 4 = true then
  (if inB a3 4 = true then
  (if (gI x3.2 69 (iN a1)) = (gI x3.2 69 (iN a3)) then
  (if inB a1 4 = true then
  (if ((gI x3.2 70 (iN a1)) - a2) < a5 then
  ((f_M_is N 3 x3.2).bind (fun x9 =>
  match narOK 1 x9.1 with
  | true => some (x9.1, x9.2)
  | false => none))
  else
  (if inB a3 4 = true then
  (if a5 ≤ ((gI x3.2 70 (iN a3)) - a4) then
  (F_M_pour_118 N bk a1 a2 a3 a4 a5 0 x3.2)
  else
  ((f_M_is N 3 x3.2).bind (fun x10 =>
  match narOK 1 x10.1 with
  | true => some (x10.1, x10.2)
  | false => none)))
  else none))
  else none)
  else
  ((f_M_is N 8 x3.2).bind (fun x11 =>
  match narOK 1 x11.1 with
  | true => some (x11.1, x11.2)
  | false => none)))
  else none)
  else none))
  else none))
  else none)
  else
  ((f_M_is N 1 x3.2).bind (fun x12 =>
  match narOK 1 x12.1 with
  | true => some (x12.1, x12.2)
  | false => none))))))))
def L_M_pour (N : Nat) : Nat → (Int32 → Int32 → Int32 → Int32 → Int32 → Int32 → MH → Option (Int32 × MH))
  | 0 => fun _ _ _ _ _ _ _ => none
  | n + 1 => F_M_pour_118 N (L_M_pour N n)
def f_M_pour (N : Nat) (a1 : Int32) (a2 : Int32) (a3 : Int32) (a4 : Int32) (a5 : Int32) (h : MH) : Option (Int32 × MH) := F_M_pour_0 N (L_M_pour N N) a1 a2 a3 a4 a5 h
def C_M_pour (N : Nat) : MC := (KDL, false, (fun _ => 0), jsB, (fun j => match Nat.beq j 167 with
    | true => w_M_is (f_M_is N)
    | false => match Nat.beq j 171 with
    | true => w_M_isTray (f_M_isTray N)
    | false => fun _ _ => none), (fun _ _ _ => none), (fun _ _ _ => none), (fun _ _ _ => none))
def D_M_pour (N : Nat) (n pc : Nat) (lv : ML) (st : List MV) (h : MH) : Option (Int32 × MH) :=
  match Nat.beq pc 0 with
  | true => (match lk lv 0, lk lv 1, lk lv 2, lk lv 3, lk lv 4, lk lv 5, st with
    | some (.inr (.inr (0, 12, 68))), some (.inl a1), some (.inl a2), some (.inl a3), some (.inl a4), some (.inl a5), [] => F_M_pour_0 N (L_M_pour N n) a1 a2 a3 a4 a5 h
    | _, _, _, _, _, _, _ => none)
  | false => match Nat.beq pc 118 with
  | true => (match lk lv 0, lk lv 1, lk lv 2, lk lv 3, lk lv 4, lk lv 5, lk lv 6, st with
    | some (.inr (.inr (0, 12, 68))), some (.inl a1), some (.inl a2), some (.inl a3), some (.inl a4), some (.inl a5), some (.inl a6), [] => F_M_pour_118 N (L_M_pour N n) a1 a2 a3 a4 a5 a6 h
    | _, _, _, _, _, _, _, _ => none)
  | false => match Nat.beq pc 143 with
  | true => (match lk lv 0, lk lv 1, lk lv 2, lk lv 3, lk lv 4, lk lv 5, lk lv 6, st with
    | some (.inr (.inr (0, 12, 68))), some (.inl a1), some (.inl a2), some (.inl a3), some (.inl a4), some (.inl a5), some (.inl a6), [.inl as0] => F_M_pour_143 N (L_M_pour N n) a1 a2 a3 a4 a5 a6 as0 h
    | _, _, _, _, _, _, _, _ => none)
  | false => none
def B_M_pour (N : Nat) (n pc : Nat) (lv : ML) (st : List MV) (h : MH) : Option (Int32 × MH) :=
  match Nat.beq pc 118 with
  | true => (match lk lv 0, lk lv 1, lk lv 2, lk lv 3, lk lv 4, lk lv 5, lk lv 6, st with
    | some (.inr (.inr (0, 12, 68))), some (.inl a1), some (.inl a2), some (.inl a3), some (.inl a4), some (.inl a5), some (.inl a6), [] => ((L_M_pour N n)) a1 a2 a3 a4 a5 a6 h
    | _, _, _, _, _, _, _, _ => none)
  | false => none
set_option maxRecDepth 1000000 in
theorem E_M_pour_0 (N : Nat) (n : Nat) (a1 : Int32) (a2 : Int32) (a3 : Int32) (a4 : Int32) (a5 : Int32) (h : MH) : seg (C_M_pour N) 8 1 rI T_M_pour [0, 118, 143] (fun q lv st h => match Nat.ble 1 q with
    | true => D_M_pour N n q lv st h
    | false => B_M_pour N n q lv st h) 400 true 0 [(0, .inr (.inr (0, 12, 68))), (1, .inl a1), (2, .inl a2), (3, .inl a3), (4, .inl a4), (5, .inl a5)] [] h = F_M_pour_0 N (L_M_pour N n) a1 a2 a3 a4 a5 h := (rfl)
set_option maxRecDepth 1000000 in
theorem E_M_pour_118 (N : Nat) (n : Nat) (a1 : Int32) (a2 : Int32) (a3 : Int32) (a4 : Int32) (a5 : Int32) (a6 : Int32) (h : MH) : seg (C_M_pour N) 8 1 rI T_M_pour [0, 118, 143] (fun q lv st h => match Nat.ble 119 q with
    | true => D_M_pour N n q lv st h
    | false => B_M_pour N n q lv st h) 400 true 118 [(0, .inr (.inr (0, 12, 68))), (1, .inl a1), (2, .inl a2), (3, .inl a3), (4, .inl a4), (5, .inl a5), (6, .inl a6)] [] h = F_M_pour_118 N (L_M_pour N n) a1 a2 a3 a4 a5 a6 h := (rfl)
set_option maxRecDepth 1000000 in
theorem E_M_pour_143 (N : Nat) (n : Nat) (a1 : Int32) (a2 : Int32) (a3 : Int32) (a4 : Int32) (a5 : Int32) (a6 : Int32) (as0 : Int32) (h : MH) : seg (C_M_pour N) 8 1 rI T_M_pour [0, 118, 143] (fun q lv st h => match Nat.ble 144 q with
    | true => D_M_pour N n q lv st h
    | false => B_M_pour N n q lv st h) 400 true 143 [(0, .inr (.inr (0, 12, 68))), (1, .inl a1), (2, .inl a2), (3, .inl a3), (4, .inl a4), (5, .inl a5), (6, .inl a6)] [.inl as0] h = F_M_pour_143 N (L_M_pour N n) a1 a2 a3 a4 a5 a6 as0 h := (rfl)
set_option maxRecDepth 1000000 in
theorem chk_M_pour : chkT 12 false prog_14_method_15_code T_M_pour = true := by decide +kernel
theorem mc_M_pour : mC 177 = prog_14_method_15_code := by rfl
theorem mx_M_pour : mL 177 = 8 ∧ mR 177 = some .boolean ∧ mK 177 = 1 ∧ (mN 177).cls = cN 12 := by decide +kernel
theorem hD_M_pour (N : Nat) {r : Int32 × MH} : ∀ n pc lv st h, D_M_pour N n pc lv st h = some r → ∃ lv', (∀ q ∈ lv', q ∈ lv) ∧ seg (C_M_pour N) 8 1 rI T_M_pour [0, 118, 143] (fun q lv st h => match Nat.ble (pc + 1) q with
    | true => D_M_pour N n q lv st h
    | false => B_M_pour N n q lv st h) 400 true pc lv' st h = some r := by
  intro n pc lv st h hf
  unfold D_M_pour at hf
  split at hf
  · rename_i hb
    have hb := Nat.eq_of_beq_eq_true hb
    subst hb
    split at hf
    · rename_i y0 y1 y2 y3 y4 e0 e1 e2 e3 e4 e5
      exact ⟨_, (sub_cons e0 (sub_cons e1 (sub_cons e2 (sub_cons e3 (sub_cons e4 (sub_cons e5 sub_nil)))))), (E_M_pour_0 N n _ _ _ _ _ h).trans hf⟩
    · cases hf
  · skip
    split at hf
    · rename_i hb
      have hb := Nat.eq_of_beq_eq_true hb
      subst hb
      split at hf
      · rename_i y0 y1 y2 y3 y4 y5 e0 e1 e2 e3 e4 e5 e6
        exact ⟨_, (sub_cons e0 (sub_cons e1 (sub_cons e2 (sub_cons e3 (sub_cons e4 (sub_cons e5 (sub_cons e6 sub_nil))))))), (E_M_pour_118 N n _ _ _ _ _ _ h).trans hf⟩
      · cases hf
    · skip
      split at hf
      · rename_i hb
        have hb := Nat.eq_of_beq_eq_true hb
        subst hb
        split at hf
        · rename_i y0 y1 y2 y3 y4 y5 y6 e0 e1 e2 e3 e4 e5 e6
          exact ⟨_, (sub_cons e0 (sub_cons e1 (sub_cons e2 (sub_cons e3 (sub_cons e4 (sub_cons e5 (sub_cons e6 sub_nil))))))), (E_M_pour_143 N n _ _ _ _ _ _ _ h).trans hf⟩
        · cases hf
      · skip
        cases hf
theorem hM_M_pour (N : Nat) {r : Int32 × MH} : ∀ n pc lv st h, D_M_pour N n pc lv st h = some r → pc < 186 := by
  intro n pc lv st h hf
  unfold D_M_pour at hf
  split at hf
  · rename_i hb
    rw [Nat.eq_of_beq_eq_true hb]
    decide
  · skip
    split at hf
    · rename_i hb
      rw [Nat.eq_of_beq_eq_true hb]
      decide
    · skip
      split at hf
      · rename_i hb
        rw [Nat.eq_of_beq_eq_true hb]
        decide
      · skip
        cases hf
theorem hB_M_pour (N : Nat) {r : Int32 × MH} : ∀ n pc lv st h, B_M_pour N n pc lv st h = some r → ∃ k, n = k + 1 ∧ D_M_pour N k pc lv st h = some r := by
  intro n pc lv st h hf
  unfold B_M_pour at hf
  split at hf
  · rename_i hb
    have hb := Nat.eq_of_beq_eq_true hb
    subst hb
    cases n with
    | zero =>
      split at hf
      · cases hf
      · cases hf
    | succ k =>
      refine ⟨k, rfl, ?_⟩
      exact hf
  · skip
    cases hf
theorem s_M_pour {l : Launch} {E : EV} {N : Nat} {as : List MV} {h : MH} {r : Int32 × MH} (hf : w_M_pour (f_M_pour N) as h = some r) : SndM l E false 1 177 as h (some (.inl r.1)) r.2 := by
  unfold w_M_pour at hf
  split at hf
  · obtain ⟨m1, m2, m3, m4⟩ := mx_M_pour
    refine snd_of (C := C_M_pour N) (own := 12) (rz := 1) (lim := 115) rI_eq m2 m4 pl_177 (TB_in _ cw_177 rfl) ⟨(fun _ => ⟨_, _, _, _, _, _, rfl, rfl, by rw [m4]; rfl⟩), (fun z => by rw [m3] at z; cases z)⟩ (fun z => by cases z) KDL_take rfl rfl (fun z => by cases z) (fun z => by cases z) (fun _ => rfl) (by rw [m1]; exact Nat.le_of_ble_eq_true rfl)
      (fun j as h x z => by
      dsimp only [C_M_pour] at z
      cases hb : Nat.beq j 167 with
      | true =>
        have hb := Nat.eq_of_beq_eq_true hb
        subst hb
        exact ⟨0, by decide, (fun z => by cases z), s_M_is z⟩
      | false =>
        rw [hb] at z
        dsimp only at z
        cases hb : Nat.beq j 171 with
        | true =>
          have hb := Nat.eq_of_beq_eq_true hb
          subst hb
          exact ⟨0, by decide, (fun z => by cases z), s_M_isTray z⟩
        | false =>
          rw [hb] at z
          dsimp only at z
          cases z)
      (fun _ _ _ _ z => by cases z)
      (fun _ _ _ _ z => by cases z)
      (fun _ _ _ _ z => by cases z)
      (fun p e R s m args below meth c Q n0 F hret => ?_)
    rw [m1] at F hret ⊢
    rw [mc_M_pour] at F hret
    exact cuts_s (K := 400) (M := 186) (D := D_M_pour N) (B := B_M_pour N) F hret (chkT_ok chk_M_pour) (hM_M_pour N) (hB_M_pour N) (hD_M_pour N) N 0 _ _ _ hf
  · cases hf
def T_M_four : List (List (Option RW)) := [
  [some (.bipush 24, 2, [], 24, 0), none, some (.istore_n 2, 1, [2], 0, 0), some (.iload_n 2, 1, [2], 0, 0), some (.ifCond .lt 32, 3, [36], 0, 0), none, none, some (.aload_n 0, 1, [0], 0, 0), some (.getfield 24, 3, [12, 6, 2, 3, 600, 4], 0, 0), none, none, some (.aload_n 0, 1, [0], 0, 0), some (.getfield 201, 3, [12, 8, 0], 0, 0), none, none, some (.iload_n 1, 1, [1], 0, 0), some (.iload_n 2, 1, [2], 0, 0), some (.ishr, 1, [], 0, 0), some (.i2b, 1, [], 0, 0), some (.bastore, 1, [], 0, 0), some (.aload_n 0, 1, [0], 0, 0), some (.dup, 1, [], 0, 0), some (.getfield 201, 3, [12, 8, 0], 0, 0), none, none, some (.iconst 1, 1, [], 1, 0), some (.iadd, 1, [], 0, 0), some (.putfield 201, 3, [12, 8, 0], 0, 0), none, none, some (.iinc 2 (-8), 3, [2], (-8), 0), none],
  [none, some (.goto (-30), 3, [3], 0, 0), none, none, some (.return_, 1, [], 0, 0)]]
def F_M_four_3 (N : Nat) (bk : (Int32 → Int32 → MH → Option (MH))) (a1 : Int32) (a2 : Int32) (h : MH) : Option (MH) :=
  if a2 < 0 then
  (some h)
  else
  (if inB (gI h 68 8) 600 = true then
  (let h1 : MH := sI h 72 (iN (gI h 68 8)) (((a1 >>> (a2 &&& 31))).toInt8.toInt32).toInt8.toInt32
  let h2 : MH := sI h1 68 8 ((gI h1 68 8) + 1)
  let v3 : Int32 := a2 + (-8)
  bk a1 v3 h2)
  else none)
def F_M_four_0 (N : Nat) (bk : (Int32 → Int32 → MH → Option (MH))) (a1 : Int32) (h : MH) : Option (MH) :=
  F_M_four_3 N bk a1 24 h
def L_M_four (N : Nat) : Nat → (Int32 → Int32 → MH → Option (MH))
  | 0 => fun _ _ _ => none
  | n + 1 => F_M_four_3 N (L_M_four N n)
def f_M_four (N : Nat) (a1 : Int32) (h : MH) : Option (MH) := F_M_four_0 N (L_M_four N N) a1 h
def C_M_four (N : Nat) : MC := (KDL, false, (fun _ => 0), jsB, (fun _ _ _ => none), (fun _ _ _ => none), (fun _ _ _ => none), (fun _ _ _ => none))
def D_M_four (N : Nat) (n pc : Nat) (lv : ML) (st : List MV) (h : MH) : Option (MH) :=
  match Nat.beq pc 0 with
  | true => (match lk lv 0, lk lv 1, st with
    | some (.inr (.inr (0, 12, 68))), some (.inl a1), [] => F_M_four_0 N (L_M_four N n) a1 h
    | _, _, _ => none)
  | false => match Nat.beq pc 3 with
  | true => (match lk lv 0, lk lv 1, lk lv 2, st with
    | some (.inr (.inr (0, 12, 68))), some (.inl a1), some (.inl a2), [] => F_M_four_3 N (L_M_four N n) a1 a2 h
    | _, _, _, _ => none)
  | false => none
def B_M_four (N : Nat) (n pc : Nat) (lv : ML) (st : List MV) (h : MH) : Option (MH) :=
  match Nat.beq pc 3 with
  | true => (match lk lv 0, lk lv 1, lk lv 2, st with
    | some (.inr (.inr (0, 12, 68))), some (.inl a1), some (.inl a2), [] => ((L_M_four N n)) a1 a2 h
    | _, _, _, _ => none)
  | false => none
set_option maxRecDepth 1000000 in
theorem E_M_four_0 (N : Nat) (n : Nat) (a1 : Int32) (h : MH) : seg (C_M_four N) 3 0 rV T_M_four [0, 3] (fun q lv st h => match Nat.ble 1 q with
    | true => D_M_four N n q lv st h
    | false => B_M_four N n q lv st h) 400 true 0 [(0, .inr (.inr (0, 12, 68))), (1, .inl a1)] [] h = F_M_four_0 N (L_M_four N n) a1 h := (rfl)
set_option maxRecDepth 1000000 in
theorem E_M_four_3 (N : Nat) (n : Nat) (a1 : Int32) (a2 : Int32) (h : MH) : seg (C_M_four N) 3 0 rV T_M_four [0, 3] (fun q lv st h => match Nat.ble 4 q with
    | true => D_M_four N n q lv st h
    | false => B_M_four N n q lv st h) 400 true 3 [(0, .inr (.inr (0, 12, 68))), (1, .inl a1), (2, .inl a2)] [] h = F_M_four_3 N (L_M_four N n) a1 a2 h := (rfl)
set_option maxRecDepth 1000000 in
theorem chk_M_four : chkT 12 false prog_14_method_17_code T_M_four = true := by decide +kernel
theorem mc_M_four : mC 179 = prog_14_method_17_code := by rfl
theorem mx_M_four : mL 179 = 3 ∧ mR 179 = none ∧ mK 179 = 1 ∧ (mN 179).cls = cN 12 := by decide +kernel
theorem hD_M_four (N : Nat) {r : MH} : ∀ n pc lv st h, D_M_four N n pc lv st h = some r → ∃ lv', (∀ q ∈ lv', q ∈ lv) ∧ seg (C_M_four N) 3 0 rV T_M_four [0, 3] (fun q lv st h => match Nat.ble (pc + 1) q with
    | true => D_M_four N n q lv st h
    | false => B_M_four N n q lv st h) 400 true pc lv' st h = some r := by
  intro n pc lv st h hf
  unfold D_M_four at hf
  split at hf
  · rename_i hb
    have hb := Nat.eq_of_beq_eq_true hb
    subst hb
    split at hf
    · rename_i y0 e0 e1
      exact ⟨_, (sub_cons e0 (sub_cons e1 sub_nil)), (E_M_four_0 N n _ h).trans hf⟩
    · cases hf
  · skip
    split at hf
    · rename_i hb
      have hb := Nat.eq_of_beq_eq_true hb
      subst hb
      split at hf
      · rename_i y0 y1 e0 e1 e2
        exact ⟨_, (sub_cons e0 (sub_cons e1 (sub_cons e2 sub_nil))), (E_M_four_3 N n _ _ h).trans hf⟩
      · cases hf
    · skip
      cases hf
theorem hM_M_four (N : Nat) {r : MH} : ∀ n pc lv st h, D_M_four N n pc lv st h = some r → pc < 37 := by
  intro n pc lv st h hf
  unfold D_M_four at hf
  split at hf
  · rename_i hb
    rw [Nat.eq_of_beq_eq_true hb]
    decide
  · skip
    split at hf
    · rename_i hb
      rw [Nat.eq_of_beq_eq_true hb]
      decide
    · skip
      cases hf
theorem hB_M_four (N : Nat) {r : MH} : ∀ n pc lv st h, B_M_four N n pc lv st h = some r → ∃ k, n = k + 1 ∧ D_M_four N k pc lv st h = some r := by
  intro n pc lv st h hf
  unfold B_M_four at hf
  split at hf
  · rename_i hb
    have hb := Nat.eq_of_beq_eq_true hb
    subst hb
    cases n with
    | zero =>
      split at hf
      · cases hf
      · cases hf
    | succ k =>
      refine ⟨k, rfl, ?_⟩
      exact hf
  · skip
    cases hf
theorem s_M_four {l : Launch} {E : EV} {N : Nat} {as : List MV} {h : MH} {r : MH} (hf : w_M_four (f_M_four N) as h = some r) : SndM l E false 0 179 as h none r := by
  unfold w_M_four at hf
  split at hf
  · obtain ⟨m1, m2, m3, m4⟩ := mx_M_four
    refine snd_of (C := C_M_four N) (own := 12) (rz := 0) (lim := 115) rV_eq m2 m4 pl_179 (TB_in _ cw_179 rfl) ⟨(fun _ => ⟨_, _, _, _, _, _, rfl, rfl, by rw [m4]; rfl⟩), (fun z => by rw [m3] at z; cases z)⟩ (fun z => by cases z) KDL_take rfl rfl (fun z => by cases z) (fun z => by cases z) (fun _ => rfl) (by rw [m1]; exact Nat.le_of_ble_eq_true rfl)
      (fun _ _ _ _ z => by cases z)
      (fun _ _ _ _ z => by cases z)
      (fun _ _ _ _ z => by cases z)
      (fun _ _ _ _ z => by cases z)
      (fun p e R s m args below meth c Q n0 F hret => ?_)
    rw [m1] at F hret ⊢
    rw [mc_M_four] at F hret
    exact cuts_s (K := 400) (M := 37) (D := D_M_four N) (B := B_M_four N) F hret (chkT_ok chk_M_four) (hM_M_four N) (hB_M_four N) (hD_M_four N) N 0 _ _ _ hf
  · cases hf
def T_M_feed : List (List (Option RW)) := [
  [some (.aload_n 0, 1, [0], 0, 0), some (.getfield 201, 3, [12, 8, 0], 0, 0), none, none, some (.bipush 20, 2, [], 20, 0), none, some (.iadd, 1, [], 0, 0), some (.sipush 600, 3, [], 600, 0), none, none, some (.if_icmp .le 5, 3, [15], 0, 0), none, none, some (.iconst (-1), 1, [], (-1), 0), some (.ireturn, 1, [], 0, 0), some (.aload_n 0, 1, [0], 0, 0), some (.iload_n 1, 1, [1], 0, 0), some (.invokevirtual 204, 3, [0, 179, 2, 3], 0, 0), none, none, some (.aload_n 0, 1, [0], 0, 0), some (.iload_n 2, 1, [2], 0, 0), some (.invokevirtual 204, 3, [0, 179, 2, 3], 0, 0), none, none, some (.aload_n 0, 1, [0], 0, 0), some (.iload_n 3, 1, [3], 0, 0), some (.invokevirtual 204, 3, [0, 179, 2, 3], 0, 0), none, none, some (.aload_n 0, 1, [0], 0, 0), some (.iload 4, 2, [4], 0, 0)],
  [none, some (.invokevirtual 204, 3, [0, 179, 2, 3], 0, 0), none, none, some (.aload_n 0, 1, [0], 0, 0), some (.iload 5, 2, [5], 0, 0), none, some (.invokevirtual 204, 3, [0, 179, 2, 3], 0, 0), none, none, some (.aload_n 0, 1, [0], 0, 0), some (.getfield 201, 3, [12, 8, 0], 0, 0), none, none, some (.ireturn, 1, [], 0, 0)]]
def f_M_feed (N : Nat) (a1 : Int32) (a2 : Int32) (a3 : Int32) (a4 : Int32) (a5 : Int32) (h : MH) : Option (Int32 × MH) :=
  if ((gI h 68 8) + 20) ≤ 600 then
  ((f_M_four N a1 h).bind (fun x1 =>
  (f_M_four N a2 x1).bind (fun x2 =>
  (f_M_four N a3 x2).bind (fun x3 =>
  (f_M_four N a4 x3).bind (fun x4 =>
  (f_M_four N a5 x4).bind (fun x5 =>
  some (gI x5 68 8, x5)))))))
  else
  (some ((-1), h))
def C_M_feed (N : Nat) : MC := (KDL, false, (fun _ => 0), jsB, (fun _ _ _ => none), (fun _ _ _ => none), (fun _ _ _ => none), (fun j => match Nat.beq j 179 with
    | true => w_M_four (f_M_four N)
    | false => fun _ _ => none))
def D_M_feed (N : Nat) (n pc : Nat) (lv : ML) (st : List MV) (h : MH) : Option (Int32 × MH) :=
  match Nat.beq pc 0 with
  | true => (match lk lv 0, lk lv 1, lk lv 2, lk lv 3, lk lv 4, lk lv 5, st with
    | some (.inr (.inr (0, 12, 68))), some (.inl a1), some (.inl a2), some (.inl a3), some (.inl a4), some (.inl a5), [] => f_M_feed N a1 a2 a3 a4 a5 h
    | _, _, _, _, _, _, _ => none)
  | false => none
set_option maxRecDepth 1000000 in
theorem E_M_feed_0 (N : Nat) (n : Nat) (a1 : Int32) (a2 : Int32) (a3 : Int32) (a4 : Int32) (a5 : Int32) (h : MH) : seg (C_M_feed N) 6 0 rI T_M_feed [0] (fun q lv st h => match Nat.ble 1 q with
    | true => D_M_feed N n q lv st h
    | false => none) 400 true 0 [(0, .inr (.inr (0, 12, 68))), (1, .inl a1), (2, .inl a2), (3, .inl a3), (4, .inl a4), (5, .inl a5)] [] h = f_M_feed N a1 a2 a3 a4 a5 h := (rfl)
set_option maxRecDepth 1000000 in
theorem chk_M_feed : chkT 12 false prog_14_method_16_code T_M_feed = true := by decide +kernel
theorem mc_M_feed : mC 178 = prog_14_method_16_code := by rfl
theorem mx_M_feed : mL 178 = 6 ∧ mR 178 = some .int ∧ mK 178 = 1 ∧ (mN 178).cls = cN 12 := by decide +kernel
theorem hD_M_feed (N : Nat) {r : Int32 × MH} : ∀ n pc lv st h, D_M_feed N n pc lv st h = some r → ∃ lv', (∀ q ∈ lv', q ∈ lv) ∧ seg (C_M_feed N) 6 0 rI T_M_feed [0] (fun q lv st h => match Nat.ble (pc + 1) q with
    | true => D_M_feed N n q lv st h
    | false => none) 400 true pc lv' st h = some r := by
  intro n pc lv st h hf
  unfold D_M_feed at hf
  split at hf
  · rename_i hb
    have hb := Nat.eq_of_beq_eq_true hb
    subst hb
    split at hf
    · rename_i y0 y1 y2 y3 y4 e0 e1 e2 e3 e4 e5
      exact ⟨_, (sub_cons e0 (sub_cons e1 (sub_cons e2 (sub_cons e3 (sub_cons e4 (sub_cons e5 sub_nil)))))), (E_M_feed_0 N n _ _ _ _ _ h).trans hf⟩
    · cases hf
  · skip
    cases hf
theorem hM_M_feed (N : Nat) {r : Int32 × MH} : ∀ n pc lv st h, D_M_feed N n pc lv st h = some r → pc < 47 := by
  intro n pc lv st h hf
  unfold D_M_feed at hf
  split at hf
  · rename_i hb
    rw [Nat.eq_of_beq_eq_true hb]
    decide
  · skip
    cases hf
theorem s_M_feed {l : Launch} {E : EV} {N : Nat} {as : List MV} {h : MH} {r : Int32 × MH} (hf : w_M_feed (f_M_feed N) as h = some r) : SndM l E false 1 178 as h (some (.inl r.1)) r.2 := by
  unfold w_M_feed at hf
  split at hf
  · obtain ⟨m1, m2, m3, m4⟩ := mx_M_feed
    refine snd_of (C := C_M_feed N) (own := 12) (rz := 0) (lim := 115) rI_eq m2 m4 pl_178 (TB_in _ cw_178 rfl) ⟨(fun _ => ⟨_, _, _, _, _, _, rfl, rfl, by rw [m4]; rfl⟩), (fun z => by rw [m3] at z; cases z)⟩ (fun z => by cases z) KDL_take rfl rfl (fun z => by cases z) (fun z => by cases z) (fun _ => rfl) (by rw [m1]; exact Nat.le_of_ble_eq_true rfl)
      (fun _ _ _ _ z => by cases z)
      (fun _ _ _ _ z => by cases z)
      (fun _ _ _ _ z => by cases z)
      (fun j as h x z => by
      dsimp only [C_M_feed] at z
      cases hb : Nat.beq j 179 with
      | true =>
        have hb := Nat.eq_of_beq_eq_true hb
        subst hb
        exact ⟨0, by decide, (fun z => by cases z), s_M_four z⟩
      | false =>
        rw [hb] at z
        dsimp only at z
        cases z)
      (fun p e R s m args below meth c Q n0 F hret => ?_)
    rw [m1] at F hret ⊢
    rw [mc_M_feed] at F hret
    exact cuts_s (K := 400) (M := 47) (D := D_M_feed N) (B := fun _ _ _ _ _ => none) F hret (chkT_ok chk_M_feed) (hM_M_feed N) (fun _ _ _ _ _ z => by cases z) (hD_M_feed N) N 0 _ _ _ hf
  · cases hf
def T_M_at : List (List (Option RW)) := [
  [some (.iload_n 1, 1, [1], 0, 0), some (.aload_n 0, 1, [0], 0, 0), some (.getfield 208, 3, [12, 9, 0], 0, 0), none, none, some (.if_icmp .ge 16, 3, [21], 0, 0), none, none, some (.aload_n 0, 1, [0], 0, 0), some (.getfield 28, 3, [12, 7, 2, 3, 600, 5], 0, 0), none, none, some (.iload_n 1, 1, [1], 0, 0), some (.baload, 1, [], 0, 0), some (.sipush 255, 3, [], 255, 0), none, none, some (.iand, 1, [], 0, 0), some (.goto 4, 3, [22], 0, 0), none, none, some (.iconst (-1), 1, [], (-1), 0), some (.ireturn, 1, [], 0, 0)]]
def f_M_at (N : Nat) (a1 : Int32) (h : MH) : Option (Int32 × MH) :=
  if (gI h 68 9) ≤ a1 then
  (some ((-1), h))
  else
  (if inB a1 600 = true then
  (some ((gI h 73 (iN a1)) &&& 255, h))
  else none)
def C_M_at (N : Nat) : MC := (KDL, false, (fun _ => 0), jsB, (fun _ _ _ => none), (fun _ _ _ => none), (fun _ _ _ => none), (fun _ _ _ => none))
def D_M_at (N : Nat) (n pc : Nat) (lv : ML) (st : List MV) (h : MH) : Option (Int32 × MH) :=
  match Nat.beq pc 0 with
  | true => (match lk lv 0, lk lv 1, st with
    | some (.inr (.inr (0, 12, 68))), some (.inl a1), [] => f_M_at N a1 h
    | _, _, _ => none)
  | false => none
set_option maxRecDepth 1000000 in
theorem E_M_at_0 (N : Nat) (n : Nat) (a1 : Int32) (h : MH) : seg (C_M_at N) 2 0 rI T_M_at [0] (fun q lv st h => match Nat.ble 1 q with
    | true => D_M_at N n q lv st h
    | false => none) 400 true 0 [(0, .inr (.inr (0, 12, 68))), (1, .inl a1)] [] h = f_M_at N a1 h := (rfl)
set_option maxRecDepth 1000000 in
theorem chk_M_at : chkT 12 false prog_14_method_18_code T_M_at = true := by decide +kernel
theorem mc_M_at : mC 180 = prog_14_method_18_code := by rfl
theorem mx_M_at : mL 180 = 2 ∧ mR 180 = some .int ∧ mK 180 = 1 ∧ (mN 180).cls = cN 12 := by decide +kernel
theorem hD_M_at (N : Nat) {r : Int32 × MH} : ∀ n pc lv st h, D_M_at N n pc lv st h = some r → ∃ lv', (∀ q ∈ lv', q ∈ lv) ∧ seg (C_M_at N) 2 0 rI T_M_at [0] (fun q lv st h => match Nat.ble (pc + 1) q with
    | true => D_M_at N n q lv st h
    | false => none) 400 true pc lv' st h = some r := by
  intro n pc lv st h hf
  unfold D_M_at at hf
  split at hf
  · rename_i hb
    have hb := Nat.eq_of_beq_eq_true hb
    subst hb
    split at hf
    · rename_i y0 e0 e1
      exact ⟨_, (sub_cons e0 (sub_cons e1 sub_nil)), (E_M_at_0 N n _ h).trans hf⟩
    · cases hf
  · skip
    cases hf
theorem hM_M_at (N : Nat) {r : Int32 × MH} : ∀ n pc lv st h, D_M_at N n pc lv st h = some r → pc < 23 := by
  intro n pc lv st h hf
  unfold D_M_at at hf
  split at hf
  · rename_i hb
    rw [Nat.eq_of_beq_eq_true hb]
    decide
  · skip
    cases hf
theorem s_M_at {l : Launch} {E : EV} {N : Nat} {as : List MV} {h : MH} {r : Int32 × MH} (hf : w_M_at (f_M_at N) as h = some r) : SndM l E false 0 180 as h (some (.inl r.1)) r.2 := by
  unfold w_M_at at hf
  split at hf
  · obtain ⟨m1, m2, m3, m4⟩ := mx_M_at
    refine snd_of (C := C_M_at N) (own := 12) (rz := 0) (lim := 115) rI_eq m2 m4 pl_180 (TB_in _ cw_180 rfl) ⟨(fun _ => ⟨_, _, _, _, _, _, rfl, rfl, by rw [m4]; rfl⟩), (fun z => by rw [m3] at z; cases z)⟩ (fun z => by cases z) KDL_take rfl rfl (fun z => by cases z) (fun z => by cases z) (fun _ => rfl) (by rw [m1]; exact Nat.le_of_ble_eq_true rfl)
      (fun _ _ _ _ z => by cases z)
      (fun _ _ _ _ z => by cases z)
      (fun _ _ _ _ z => by cases z)
      (fun _ _ _ _ z => by cases z)
      (fun p e R s m args below meth c Q n0 F hret => ?_)
    rw [m1] at F hret ⊢
    rw [mc_M_at] at F hret
    exact cuts_s (K := 400) (M := 23) (D := D_M_at N) (B := fun _ _ _ _ _ => none) F hret (chkT_ok chk_M_at) (hM_M_at N) (fun _ _ _ _ _ z => by cases z) (hD_M_at N) N 0 _ _ _ hf
  · cases hf
def T_M_isSmall : List (List (Option RW)) := [
  [some (.iload_n 0, 1, [0], 0, 0), some (.bipush 97, 2, [], 97, 0), none, some (.if_icmp .lt 13, 3, [16], 0, 0), none, none, some (.iload_n 0, 1, [0], 0, 0), some (.bipush 122, 2, [], 122, 0), none, some (.if_icmp .gt 7, 3, [16], 0, 0), none, none, some (.iconst 1, 1, [], 1, 0), some (.goto 4, 3, [17], 0, 0), none, none, some (.iconst 0, 1, [], 0, 0), some (.ireturn, 1, [], 0, 0)]]
def f_M_isSmall (N : Nat) (a0 : Int32) (h : MH) : Option (Int32 × MH) :=
  if a0 < 97 then
  (some (0, h))
  else
  (if 122 < a0 then
  (some (0, h))
  else
  (some (1, h)))
def C_M_isSmall (N : Nat) : MC := (KDL, false, (fun _ => 0), jsB, (fun _ _ _ => none), (fun _ _ _ => none), (fun _ _ _ => none), (fun _ _ _ => none))
def D_M_isSmall (N : Nat) (n pc : Nat) (lv : ML) (st : List MV) (h : MH) : Option (Int32 × MH) :=
  match Nat.beq pc 0 with
  | true => (match lk lv 0, st with
    | some (.inl a0), [] => f_M_isSmall N a0 h
    | _, _ => none)
  | false => none
set_option maxRecDepth 1000000 in
theorem E_M_isSmall_0 (N : Nat) (n : Nat) (a0 : Int32) (h : MH) : seg (C_M_isSmall N) 1 1 rI T_M_isSmall [0] (fun q lv st h => match Nat.ble 1 q with
    | true => D_M_isSmall N n q lv st h
    | false => none) 400 true 0 [(0, .inl a0)] [] h = f_M_isSmall N a0 h := (rfl)
set_option maxRecDepth 1000000 in
theorem chk_M_isSmall : chkT 12 false prog_14_method_19_code T_M_isSmall = true := by decide +kernel
theorem mc_M_isSmall : mC 181 = prog_14_method_19_code := by rfl
theorem mx_M_isSmall : mL 181 = 1 ∧ mR 181 = some .boolean ∧ mK 181 = 0 ∧ (mN 181).cls = cN 12 := by decide +kernel
theorem hD_M_isSmall (N : Nat) {r : Int32 × MH} : ∀ n pc lv st h, D_M_isSmall N n pc lv st h = some r → ∃ lv', (∀ q ∈ lv', q ∈ lv) ∧ seg (C_M_isSmall N) 1 1 rI T_M_isSmall [0] (fun q lv st h => match Nat.ble (pc + 1) q with
    | true => D_M_isSmall N n q lv st h
    | false => none) 400 true pc lv' st h = some r := by
  intro n pc lv st h hf
  unfold D_M_isSmall at hf
  split at hf
  · rename_i hb
    have hb := Nat.eq_of_beq_eq_true hb
    subst hb
    split at hf
    · rename_i y0 e0
      exact ⟨_, (sub_cons e0 sub_nil), (E_M_isSmall_0 N n _ h).trans hf⟩
    · cases hf
  · skip
    cases hf
theorem hM_M_isSmall (N : Nat) {r : Int32 × MH} : ∀ n pc lv st h, D_M_isSmall N n pc lv st h = some r → pc < 18 := by
  intro n pc lv st h hf
  unfold D_M_isSmall at hf
  split at hf
  · rename_i hb
    rw [Nat.eq_of_beq_eq_true hb]
    decide
  · skip
    cases hf
theorem s_M_isSmall {l : Launch} {E : EV} {N : Nat} {as : List MV} {h : MH} {r : Int32 × MH} (hf : w_M_isSmall (f_M_isSmall N) as h = some r) : SndM l E false 0 181 as h (some (.inl r.1)) r.2 := by
  unfold w_M_isSmall at hf
  split at hf
  · obtain ⟨m1, m2, m3, m4⟩ := mx_M_isSmall
    refine snd_of (C := C_M_isSmall N) (own := 12) (rz := 1) (lim := 115) rI_eq m2 m4 pl_181 (TB_in _ cw_181 rfl) ⟨(fun z => by rw [m3] at z; cases z), (fun z => by rw [m3] at z; cases z)⟩ (fun z => by cases z) KDL_take rfl rfl (fun z => by cases z) (fun z => by cases z) (fun _ => rfl) (by rw [m1]; exact Nat.le_of_ble_eq_true rfl)
      (fun _ _ _ _ z => by cases z)
      (fun _ _ _ _ z => by cases z)
      (fun _ _ _ _ z => by cases z)
      (fun _ _ _ _ z => by cases z)
      (fun p e R s m args below meth c Q n0 F hret => ?_)
    rw [m1] at F hret ⊢
    rw [mc_M_isSmall] at F hret
    exact cuts_s (K := 400) (M := 18) (D := D_M_isSmall N) (B := fun _ _ _ _ _ => none) F hret (chkT_ok chk_M_isSmall) (hM_M_isSmall N) (fun _ _ _ _ _ z => by cases z) (hD_M_isSmall N) N 0 _ _ _ hf
  · cases hf
def T_M_isDigit : List (List (Option RW)) := [
  [some (.iload_n 0, 1, [0], 0, 0), some (.bipush 48, 2, [], 48, 0), none, some (.if_icmp .lt 13, 3, [16], 0, 0), none, none, some (.iload_n 0, 1, [0], 0, 0), some (.bipush 57, 2, [], 57, 0), none, some (.if_icmp .gt 7, 3, [16], 0, 0), none, none, some (.iconst 1, 1, [], 1, 0), some (.goto 4, 3, [17], 0, 0), none, none, some (.iconst 0, 1, [], 0, 0), some (.ireturn, 1, [], 0, 0)]]
def f_M_isDigit (N : Nat) (a0 : Int32) (h : MH) : Option (Int32 × MH) :=
  if a0 < 48 then
  (some (0, h))
  else
  (if 57 < a0 then
  (some (0, h))
  else
  (some (1, h)))
def C_M_isDigit (N : Nat) : MC := (KDL, false, (fun _ => 0), jsB, (fun _ _ _ => none), (fun _ _ _ => none), (fun _ _ _ => none), (fun _ _ _ => none))
def D_M_isDigit (N : Nat) (n pc : Nat) (lv : ML) (st : List MV) (h : MH) : Option (Int32 × MH) :=
  match Nat.beq pc 0 with
  | true => (match lk lv 0, st with
    | some (.inl a0), [] => f_M_isDigit N a0 h
    | _, _ => none)
  | false => none
set_option maxRecDepth 1000000 in
theorem E_M_isDigit_0 (N : Nat) (n : Nat) (a0 : Int32) (h : MH) : seg (C_M_isDigit N) 1 1 rI T_M_isDigit [0] (fun q lv st h => match Nat.ble 1 q with
    | true => D_M_isDigit N n q lv st h
    | false => none) 400 true 0 [(0, .inl a0)] [] h = f_M_isDigit N a0 h := (rfl)
set_option maxRecDepth 1000000 in
theorem chk_M_isDigit : chkT 12 false prog_14_method_20_code T_M_isDigit = true := by decide +kernel
theorem mc_M_isDigit : mC 182 = prog_14_method_20_code := by rfl
theorem mx_M_isDigit : mL 182 = 1 ∧ mR 182 = some .boolean ∧ mK 182 = 0 ∧ (mN 182).cls = cN 12 := by decide +kernel
theorem hD_M_isDigit (N : Nat) {r : Int32 × MH} : ∀ n pc lv st h, D_M_isDigit N n pc lv st h = some r → ∃ lv', (∀ q ∈ lv', q ∈ lv) ∧ seg (C_M_isDigit N) 1 1 rI T_M_isDigit [0] (fun q lv st h => match Nat.ble (pc + 1) q with
    | true => D_M_isDigit N n q lv st h
    | false => none) 400 true pc lv' st h = some r := by
  intro n pc lv st h hf
  unfold D_M_isDigit at hf
  split at hf
  · rename_i hb
    have hb := Nat.eq_of_beq_eq_true hb
    subst hb
    split at hf
    · rename_i y0 e0
      exact ⟨_, (sub_cons e0 sub_nil), (E_M_isDigit_0 N n _ h).trans hf⟩
    · cases hf
  · skip
    cases hf
theorem hM_M_isDigit (N : Nat) {r : Int32 × MH} : ∀ n pc lv st h, D_M_isDigit N n pc lv st h = some r → pc < 18 := by
  intro n pc lv st h hf
  unfold D_M_isDigit at hf
  split at hf
  · rename_i hb
    rw [Nat.eq_of_beq_eq_true hb]
    decide
  · skip
    cases hf
theorem s_M_isDigit {l : Launch} {E : EV} {N : Nat} {as : List MV} {h : MH} {r : Int32 × MH} (hf : w_M_isDigit (f_M_isDigit N) as h = some r) : SndM l E false 0 182 as h (some (.inl r.1)) r.2 := by
  unfold w_M_isDigit at hf
  split at hf
  · obtain ⟨m1, m2, m3, m4⟩ := mx_M_isDigit
    refine snd_of (C := C_M_isDigit N) (own := 12) (rz := 1) (lim := 115) rI_eq m2 m4 pl_182 (TB_in _ cw_182 rfl) ⟨(fun z => by rw [m3] at z; cases z), (fun z => by rw [m3] at z; cases z)⟩ (fun z => by cases z) KDL_take rfl rfl (fun z => by cases z) (fun z => by cases z) (fun _ => rfl) (by rw [m1]; exact Nat.le_of_ble_eq_true rfl)
      (fun _ _ _ _ z => by cases z)
      (fun _ _ _ _ z => by cases z)
      (fun _ _ _ _ z => by cases z)
      (fun _ _ _ _ z => by cases z)
      (fun p e R s m args below meth c Q n0 F hret => ?_)
    rw [m1] at F hret ⊢
    rw [mc_M_isDigit] at F hret
    exact cuts_s (K := 400) (M := 18) (D := D_M_isDigit N) (B := fun _ _ _ _ _ => none) F hret (chkT_ok chk_M_isDigit) (hM_M_isDigit N) (fun _ _ _ _ _ z => by cases z) (hD_M_isDigit N) N 0 _ _ _ hf
  · cases hf
def T_M_next : List (List (Option RW)) := [
  [some (.aload_n 0, 1, [0], 0, 0), some (.aload_n 0, 1, [0], 0, 0), some (.getfield 211, 3, [12, 12, 0], 0, 0), none, none, some (.invokevirtual 214, 3, [0, 180, 2, 0], 0, 0), none, none, some (.bipush 32, 2, [], 32, 0), none, some (.if_icmp .eq 16, 3, [26], 0, 0), none, none, some (.aload_n 0, 1, [0], 0, 0), some (.aload_n 0, 1, [0], 0, 0), some (.getfield 211, 3, [12, 12, 0], 0, 0), none, none, some (.invokevirtual 214, 3, [0, 180, 2, 0], 0, 0), none, none, some (.bipush 10, 2, [], 10, 0), none, some (.if_icmp .ne 16, 3, [39], 0, 0), none, none, some (.aload_n 0, 1, [0], 0, 0), some (.dup, 1, [], 0, 0), some (.getfield 211, 3, [12, 12, 0], 0, 0), none, none, some (.iconst 1, 1, [], 1, 0)],
  [some (.iadd, 1, [], 0, 0), some (.putfield 211, 3, [12, 12, 0], 0, 0), none, none, some (.goto (-36), 3, [0], 0, 0), none, none, some (.aload_n 0, 1, [0], 0, 0), some (.aload_n 0, 1, [0], 0, 0), some (.getfield 211, 3, [12, 12, 0], 0, 0), none, none, some (.putfield 217, 3, [12, 11, 0], 0, 0), none, none, some (.aload_n 0, 1, [0], 0, 0), some (.aload_n 0, 1, [0], 0, 0), some (.getfield 211, 3, [12, 12, 0], 0, 0), none, none, some (.invokevirtual 214, 3, [0, 180, 2, 0], 0, 0), none, none, some (.istore_n 1, 1, [1], 0, 0), some (.aload_n 0, 1, [0], 0, 0), some (.iload_n 1, 1, [1], 0, 0), some (.putfield 220, 3, [12, 13, 0], 0, 0), none, none, some (.iload_n 1, 1, [1], 0, 0), some (.iconst (-1), 1, [], (-1), 0), some (.if_icmp .ne 11, 3, [74], 0, 0)],
  [none, none, some (.aload_n 0, 1, [0], 0, 0), some (.iconst 0, 1, [], 0, 0), some (.putfield 223, 3, [12, 10, 0], 0, 0), none, none, some (.goto 192, 3, [263], 0, 0), none, none, some (.iload_n 1, 1, [1], 0, 0), some (.invokestatic 226, 3, [2, 181, 1, 0], 0, 0), none, none, some (.ifCond .eq 38, 3, [116], 0, 0), none, none, some (.aload_n 0, 1, [0], 0, 0), some (.aload_n 0, 1, [0], 0, 0), some (.getfield 211, 3, [12, 12, 0], 0, 0), none, none, some (.invokevirtual 214, 3, [0, 180, 2, 0], 0, 0), none, none, some (.invokestatic 226, 3, [2, 181, 1, 0], 0, 0), none, none, some (.ifCond .eq 16, 3, [108], 0, 0), none, none, some (.aload_n 0, 1, [0], 0, 0)],
  [some (.dup, 1, [], 0, 0), some (.getfield 211, 3, [12, 12, 0], 0, 0), none, none, some (.iconst 1, 1, [], 1, 0), some (.iadd, 1, [], 0, 0), some (.putfield 211, 3, [12, 12, 0], 0, 0), none, none, some (.goto (-24), 3, [81], 0, 0), none, none, some (.aload_n 0, 1, [0], 0, 0), some (.iconst 2, 1, [], 2, 0), some (.putfield 223, 3, [12, 10, 0], 0, 0), none, none, some (.goto 150, 3, [263], 0, 0), none, none, some (.iload_n 1, 1, [1], 0, 0), some (.invokestatic 229, 3, [2, 182, 1, 0], 0, 0), none, none, some (.ifCond .eq 88, 3, [208], 0, 0), none, none, some (.aload_n 0, 1, [0], 0, 0), some (.iconst 0, 1, [], 0, 0), some (.putfield 220, 3, [12, 13, 0], 0, 0), none, none],
  [some (.aload_n 0, 1, [0], 0, 0), some (.aload_n 0, 1, [0], 0, 0), some (.getfield 211, 3, [12, 12, 0], 0, 0), none, none, some (.invokevirtual 214, 3, [0, 180, 2, 0], 0, 0), none, none, some (.invokestatic 229, 3, [2, 182, 1, 0], 0, 0), none, none, some (.ifCond .eq 44, 3, [183], 0, 0), none, none, some (.aload_n 0, 1, [0], 0, 0), some (.ldc 232, 2, [], 1000000, 0), none, some (.bipush 10, 2, [], 10, 0), none, some (.aload_n 0, 1, [0], 0, 0), some (.getfield 220, 3, [12, 13, 0], 0, 0), none, none, some (.imul, 1, [], 0, 0), some (.aload_n 0, 1, [0], 0, 0), some (.aload_n 0, 1, [0], 0, 0), some (.getfield 211, 3, [12, 12, 0], 0, 0), none, none, some (.invokevirtual 214, 3, [0, 180, 2, 0], 0, 0), none, none],
  [some (.iadd, 1, [], 0, 0), some (.bipush 48, 2, [], 48, 0), none, some (.isub, 1, [], 0, 0), some (.invokestatic 233, 3, [2, 261, 2, 0], 0, 0), none, none, some (.putfield 220, 3, [12, 13, 0], 0, 0), none, none, some (.aload_n 0, 1, [0], 0, 0), some (.dup, 1, [], 0, 0), some (.getfield 211, 3, [12, 12, 0], 0, 0), none, none, some (.iconst 1, 1, [], 1, 0), some (.iadd, 1, [], 0, 0), some (.putfield 211, 3, [12, 12, 0], 0, 0), none, none, some (.goto (-52), 3, [128], 0, 0), none, none, some (.aload_n 0, 1, [0], 0, 0), some (.aload_n 0, 1, [0], 0, 0), some (.getfield 211, 3, [12, 12, 0], 0, 0), none, none, some (.aload_n 0, 1, [0], 0, 0), some (.getfield 217, 3, [12, 11, 0], 0, 0), none, none],
  [some (.isub, 1, [], 0, 0), some (.iconst 4, 1, [], 4, 0), some (.if_icmp .le 7, 3, [201], 0, 0), none, none, some (.iconst 1, 1, [], 1, 0), some (.goto 4, 3, [202], 0, 0), none, none, some (.iconst 3, 1, [], 3, 0), some (.putfield 223, 3, [12, 10, 0], 0, 0), none, none, some (.goto 58, 3, [263], 0, 0), none, none, some (.aload_n 0, 1, [0], 0, 0), some (.dup, 1, [], 0, 0), some (.getfield 211, 3, [12, 12, 0], 0, 0), none, none, some (.iconst 1, 1, [], 1, 0), some (.iadd, 1, [], 0, 0), some (.putfield 211, 3, [12, 12, 0], 0, 0), none, none, some (.aload_n 0, 1, [0], 0, 0), some (.iload_n 1, 1, [1], 0, 0), some (.bipush 59, 2, [], 59, 0), none, some (.if_icmp .eq 33, 3, [255], 0, 0), none],
  [none, some (.iload_n 1, 1, [1], 0, 0), some (.bipush 43, 2, [], 43, 0), none, some (.if_icmp .eq 27, 3, [255], 0, 0), none, none, some (.iload_n 1, 1, [1], 0, 0), some (.bipush 45, 2, [], 45, 0), none, some (.if_icmp .eq 21, 3, [255], 0, 0), none, none, some (.iload_n 1, 1, [1], 0, 0), some (.bipush 42, 2, [], 42, 0), none, some (.if_icmp .eq 15, 3, [255], 0, 0), none, none, some (.iload_n 1, 1, [1], 0, 0), some (.bipush 40, 2, [], 40, 0), none, some (.if_icmp .eq 9, 3, [255], 0, 0), none, none, some (.iload_n 1, 1, [1], 0, 0), some (.bipush 41, 2, [], 41, 0), none, some (.if_icmp .ne 7, 3, [259], 0, 0), none, none, some (.iconst 4, 1, [], 4, 0)],
  [some (.goto 4, 3, [260], 0, 0), none, none, some (.iconst 1, 1, [], 1, 0), some (.putfield 223, 3, [12, 10, 0], 0, 0), none, none, some (.return_, 1, [], 0, 0)]]
def F_M_next_128 (N : Nat) (bk : (MH → Option (MH)) × (MH → Option (MH)) × (MH → Option (MH))) (h : MH) : Option (MH) :=
  (f_M_at N (gI h 68 12) h).bind (fun x24 =>
  (f_M_isDigit N x24.1 x24.2).bind (fun x25 =>
  if x25.1 = 0 then
  (if ((gI x25.2 68 12) - (gI x25.2 68 11)) ≤ 4 then
  (let h26 : MH := sI x25.2 68 10 3
  some h26)
  else
  (let h27 : MH := sI x25.2 68 10 1
  some h27))
  else
  ((f_M_at N (gI x25.2 68 12) x25.2).bind (fun x28 =>
  (f_Math_min_II N 1000000 (((10 * (gI x25.2 68 13)) + x28.1) - 48) x28.2).bind (fun x29 =>
  let h30 : MH := sI x29.2 68 13 x29.1
  let h31 : MH := sI h30 68 12 ((gI h30 68 12) + 1)
  (bk.2.2) h31)))))
def F_M_next_81 (N : Nat) (bk : (MH → Option (MH)) × (MH → Option (MH)) × (MH → Option (MH))) (h : MH) : Option (MH) :=
  (f_M_at N (gI h 68 12) h).bind (fun x20 =>
  (f_M_isSmall N x20.1 x20.2).bind (fun x21 =>
  if x21.1 = 0 then
  (let h22 : MH := sI x21.2 68 10 2
  some h22)
  else
  (let h23 : MH := sI x21.2 68 12 ((gI x21.2 68 12) + 1)
  (bk.2.1) h23)))
def F_M_next_0 (N : Nat) (bk : (MH → Option (MH)) × (MH → Option (MH)) × (MH → Option (MH))) (h : MH) : Option (MH) :=
  (f_M_at N (gI h 68 12) h).bind (fun x1 =>
  if x1.1 = 32 then
  (let h2 : MH := sI x1.2 68 12 ((gI x1.2 68 12) + 1)
  (bk.1) h2)
  else
  ((f_M_at N (gI x1.2 68 12) x1.2).bind (fun x3 =>
  if x3.1 = 10 then
  (let h4 : MH := sI x3.2 68 12 ((gI x3.2 68 12) + 1)
  (bk.1) h4)
  else
  (let h5 : MH := sI x3.2 68 11 (gI x3.2 68 12)
  (f_M_at N (gI h5 68 12) h5).bind (fun x6 =>
  let h7 : MH := sI x6.2 68 13 x6.1
  if x6.1 = ((-1)) then
  (let h8 : MH := sI h7 68 10 0
  some h8)
  else
  ((f_M_isSmall N x6.1 h7).bind (fun x9 =>
  if x9.1 = 0 then
  ((f_M_isDigit N x6.1 x9.2).bind (fun x10 =>
  if x10.1 = 0 then
  (let h11 : MH := sI x10.2 68 12 ((gI x10.2 68 12) + 1)
  if x6.1 = 59 then
  (let h12 : MH := sI h11 68 10 4
  some h12)
  else
  (if x6.1 = 43 then
  (let h13 : MH := sI h11 68 10 4
  some h13)
  else
  (if x6.1 = 45 then
  (let h14 : MH := sI h11 68 10 4
  some h14)
  else
  (if x6.1 = 42 then
  (let h15 : MH := sI h11 68 10 4
  some h15)
  else
  (if x6.1 = 40 then
  (let h16 : MH := sI h11 68 10 4
  some h16)
  else
  (if x6.1 = 41 then
  (let h17 : MH := sI h11 68 10 4
  some h17)
  else
  (let h18 : MH := sI h11 68 10 1
  some h18)))))))
  else
  (let h19 : MH := sI x10.2 68 13 0
  F_M_next_128 N bk h19)))
  else
  (F_M_next_81 N bk x9.2))))))))
def L_M_next (N : Nat) : Nat → ((MH → Option (MH)) × (MH → Option (MH)) × (MH → Option (MH)))
  | 0 => (fun _ => none, fun _ => none, fun _ => none)
  | n + 1 => (F_M_next_0 N (L_M_next N n), F_M_next_81 N (L_M_next N n), F_M_next_128 N (L_M_next N n))
def f_M_next (N : Nat) (h : MH) : Option (MH) := F_M_next_0 N (L_M_next N N) h
def C_M_next (N : Nat) : MC := (KDL, false, (fun _ => 0), jsB, (fun j => match Nat.beq j 180 with
    | true => w_M_at (f_M_at N)
    | false => match Nat.beq j 181 with
    | true => w_M_isSmall (f_M_isSmall N)
    | false => match Nat.beq j 182 with
    | true => w_M_isDigit (f_M_isDigit N)
    | false => match Nat.beq j 261 with
    | true => w_Math_min_II (f_Math_min_II N)
    | false => fun _ _ => none), (fun _ _ _ => none), (fun _ _ _ => none), (fun _ _ _ => none))
def D_M_next (N : Nat) (n pc : Nat) (lv : ML) (st : List MV) (h : MH) : Option (MH) :=
  match Nat.beq pc 0 with
  | true => (match lk lv 0, st with
    | some (.inr (.inr (0, 12, 68))), [] => F_M_next_0 N (L_M_next N n) h
    | _, _ => none)
  | false => match Nat.beq pc 81 with
  | true => (match lk lv 0, st with
    | some (.inr (.inr (0, 12, 68))), [] => F_M_next_81 N (L_M_next N n) h
    | _, _ => none)
  | false => match Nat.beq pc 128 with
  | true => (match lk lv 0, st with
    | some (.inr (.inr (0, 12, 68))), [] => F_M_next_128 N (L_M_next N n) h
    | _, _ => none)
  | false => none
def B_M_next (N : Nat) (n pc : Nat) (lv : ML) (st : List MV) (h : MH) : Option (MH) :=
  match Nat.beq pc 0 with
  | true => (match lk lv 0, st with
    | some (.inr (.inr (0, 12, 68))), [] => ((L_M_next N n).1) h
    | _, _ => none)
  | false => match Nat.beq pc 81 with
  | true => (match lk lv 0, st with
    | some (.inr (.inr (0, 12, 68))), [] => ((L_M_next N n).2.1) h
    | _, _ => none)
  | false => match Nat.beq pc 128 with
  | true => (match lk lv 0, st with
    | some (.inr (.inr (0, 12, 68))), [] => ((L_M_next N n).2.2) h
    | _, _ => none)
  | false => none
set_option maxRecDepth 1000000 in
theorem E_M_next_0 (N : Nat) (n : Nat) (h : MH) : seg (C_M_next N) 2 0 rV T_M_next [0, 81, 128] (fun q lv st h => match Nat.ble 1 q with
    | true => D_M_next N n q lv st h
    | false => B_M_next N n q lv st h) 400 true 0 [(0, .inr (.inr (0, 12, 68)))] [] h = F_M_next_0 N (L_M_next N n) h := (rfl)
set_option maxRecDepth 1000000 in
theorem E_M_next_81 (N : Nat) (n : Nat) (h : MH) : seg (C_M_next N) 2 0 rV T_M_next [0, 81, 128] (fun q lv st h => match Nat.ble 82 q with
    | true => D_M_next N n q lv st h
    | false => B_M_next N n q lv st h) 400 true 81 [(0, .inr (.inr (0, 12, 68)))] [] h = F_M_next_81 N (L_M_next N n) h := (rfl)
set_option maxRecDepth 1000000 in
theorem E_M_next_128 (N : Nat) (n : Nat) (h : MH) : seg (C_M_next N) 2 0 rV T_M_next [0, 81, 128] (fun q lv st h => match Nat.ble 129 q with
    | true => D_M_next N n q lv st h
    | false => B_M_next N n q lv st h) 400 true 128 [(0, .inr (.inr (0, 12, 68)))] [] h = F_M_next_128 N (L_M_next N n) h := (rfl)
set_option maxRecDepth 1000000 in
theorem chk_M_next : chkT 12 false prog_14_method_21_code T_M_next = true := by decide +kernel
theorem mc_M_next : mC 183 = prog_14_method_21_code := by rfl
theorem mx_M_next : mL 183 = 2 ∧ mR 183 = none ∧ mK 183 = 1 ∧ (mN 183).cls = cN 12 := by decide +kernel
theorem hD_M_next (N : Nat) {r : MH} : ∀ n pc lv st h, D_M_next N n pc lv st h = some r → ∃ lv', (∀ q ∈ lv', q ∈ lv) ∧ seg (C_M_next N) 2 0 rV T_M_next [0, 81, 128] (fun q lv st h => match Nat.ble (pc + 1) q with
    | true => D_M_next N n q lv st h
    | false => B_M_next N n q lv st h) 400 true pc lv' st h = some r := by
  intro n pc lv st h hf
  unfold D_M_next at hf
  split at hf
  · rename_i hb
    have hb := Nat.eq_of_beq_eq_true hb
    subst hb
    split at hf
    · rename_i e0
      exact ⟨_, (sub_cons e0 sub_nil), (E_M_next_0 N n h).trans hf⟩
    · cases hf
  · skip
    split at hf
    · rename_i hb
      have hb := Nat.eq_of_beq_eq_true hb
      subst hb
      split at hf
      · rename_i e0
        exact ⟨_, (sub_cons e0 sub_nil), (E_M_next_81 N n h).trans hf⟩
      · cases hf
    · skip
      split at hf
      · rename_i hb
        have hb := Nat.eq_of_beq_eq_true hb
        subst hb
        split at hf
        · rename_i e0
          exact ⟨_, (sub_cons e0 sub_nil), (E_M_next_128 N n h).trans hf⟩
        · cases hf
      · skip
        cases hf
theorem hM_M_next (N : Nat) {r : MH} : ∀ n pc lv st h, D_M_next N n pc lv st h = some r → pc < 264 := by
  intro n pc lv st h hf
  unfold D_M_next at hf
  split at hf
  · rename_i hb
    rw [Nat.eq_of_beq_eq_true hb]
    decide
  · skip
    split at hf
    · rename_i hb
      rw [Nat.eq_of_beq_eq_true hb]
      decide
    · skip
      split at hf
      · rename_i hb
        rw [Nat.eq_of_beq_eq_true hb]
        decide
      · skip
        cases hf
theorem hB_M_next (N : Nat) {r : MH} : ∀ n pc lv st h, B_M_next N n pc lv st h = some r → ∃ k, n = k + 1 ∧ D_M_next N k pc lv st h = some r := by
  intro n pc lv st h hf
  unfold B_M_next at hf
  split at hf
  · rename_i hb
    have hb := Nat.eq_of_beq_eq_true hb
    subst hb
    cases n with
    | zero =>
      split at hf
      · cases hf
      · cases hf
    | succ k =>
      refine ⟨k, rfl, ?_⟩
      exact hf
  · skip
    split at hf
    · rename_i hb
      have hb := Nat.eq_of_beq_eq_true hb
      subst hb
      cases n with
      | zero =>
        split at hf
        · cases hf
        · cases hf
      | succ k =>
        refine ⟨k, rfl, ?_⟩
        exact hf
    · skip
      split at hf
      · rename_i hb
        have hb := Nat.eq_of_beq_eq_true hb
        subst hb
        cases n with
        | zero =>
          split at hf
          · cases hf
          · cases hf
        | succ k =>
          refine ⟨k, rfl, ?_⟩
          exact hf
      · skip
        cases hf
theorem s_M_next {l : Launch} {E : EV} {N : Nat} {as : List MV} {h : MH} {r : MH} (hf : w_M_next (f_M_next N) as h = some r) : SndM l E false 1 183 as h none r := by
  unfold w_M_next at hf
  split at hf
  · obtain ⟨m1, m2, m3, m4⟩ := mx_M_next
    refine snd_of (C := C_M_next N) (own := 12) (rz := 0) (lim := 115) rV_eq m2 m4 pl_183 (TB_in _ cw_183 rfl) ⟨(fun _ => ⟨_, _, _, _, _, _, rfl, rfl, by rw [m4]; rfl⟩), (fun z => by rw [m3] at z; cases z)⟩ (fun z => by cases z) KDL_take rfl rfl (fun z => by cases z) (fun z => by cases z) (fun _ => rfl) (by rw [m1]; exact Nat.le_of_ble_eq_true rfl)
      (fun j as h x z => by
      dsimp only [C_M_next] at z
      cases hb : Nat.beq j 180 with
      | true =>
        have hb := Nat.eq_of_beq_eq_true hb
        subst hb
        exact ⟨0, by decide, (fun z => by cases z), s_M_at z⟩
      | false =>
        rw [hb] at z
        dsimp only at z
        cases hb : Nat.beq j 181 with
        | true =>
          have hb := Nat.eq_of_beq_eq_true hb
          subst hb
          exact ⟨0, by decide, (fun z => by cases z), s_M_isSmall z⟩
        | false =>
          rw [hb] at z
          dsimp only at z
          cases hb : Nat.beq j 182 with
          | true =>
            have hb := Nat.eq_of_beq_eq_true hb
            subst hb
            exact ⟨0, by decide, (fun z => by cases z), s_M_isDigit z⟩
          | false =>
            rw [hb] at z
            dsimp only at z
            cases hb : Nat.beq j 261 with
            | true =>
              have hb := Nat.eq_of_beq_eq_true hb
              subst hb
              exact ⟨0, by decide, (fun z => by cases z), s_Math_min_II z⟩
            | false =>
              rw [hb] at z
              dsimp only at z
              cases z)
      (fun _ _ _ _ z => by cases z)
      (fun _ _ _ _ z => by cases z)
      (fun _ _ _ _ z => by cases z)
      (fun p e R s m args below meth c Q n0 F hret => ?_)
    rw [m1] at F hret ⊢
    rw [mc_M_next] at F hret
    exact cuts_s (K := 400) (M := 264) (D := D_M_next N) (B := B_M_next N) F hret (chkT_ok chk_M_next) (hM_M_next N) (hB_M_next N) (hD_M_next N) N 0 _ _ _ hf
  · cases hf
def T_M_isSign : List (List (Option RW)) := [
  [some (.aload_n 0, 1, [0], 0, 0), some (.getfield 223, 3, [12, 10, 0], 0, 0), none, none, some (.iconst 4, 1, [], 4, 0), some (.if_icmp .ne 15, 3, [20], 0, 0), none, none, some (.aload_n 0, 1, [0], 0, 0), some (.getfield 220, 3, [12, 13, 0], 0, 0), none, none, some (.iload_n 1, 1, [1], 0, 0), some (.if_icmp .ne 7, 3, [20], 0, 0), none, none, some (.iconst 1, 1, [], 1, 0), some (.goto 4, 3, [21], 0, 0), none, none, some (.iconst 0, 1, [], 0, 0), some (.ireturn, 1, [], 0, 0)]]
def f_M_isSign (N : Nat) (a1 : Int32) (h : MH) : Option (Int32 × MH) :=
  if (gI h 68 10) = 4 then
  (if (gI h 68 13) = a1 then
  (some (1, h))
  else
  (some (0, h)))
  else
  (some (0, h))
def C_M_isSign (N : Nat) : MC := (KDL, false, (fun _ => 0), jsB, (fun _ _ _ => none), (fun _ _ _ => none), (fun _ _ _ => none), (fun _ _ _ => none))
def D_M_isSign (N : Nat) (n pc : Nat) (lv : ML) (st : List MV) (h : MH) : Option (Int32 × MH) :=
  match Nat.beq pc 0 with
  | true => (match lk lv 0, lk lv 1, st with
    | some (.inr (.inr (0, 12, 68))), some (.inl a1), [] => f_M_isSign N a1 h
    | _, _, _ => none)
  | false => none
set_option maxRecDepth 1000000 in
theorem E_M_isSign_0 (N : Nat) (n : Nat) (a1 : Int32) (h : MH) : seg (C_M_isSign N) 2 1 rI T_M_isSign [0] (fun q lv st h => match Nat.ble 1 q with
    | true => D_M_isSign N n q lv st h
    | false => none) 400 true 0 [(0, .inr (.inr (0, 12, 68))), (1, .inl a1)] [] h = f_M_isSign N a1 h := (rfl)
set_option maxRecDepth 1000000 in
theorem chk_M_isSign : chkT 12 false prog_14_method_22_code T_M_isSign = true := by decide +kernel
theorem mc_M_isSign : mC 184 = prog_14_method_22_code := by rfl
theorem mx_M_isSign : mL 184 = 2 ∧ mR 184 = some .boolean ∧ mK 184 = 1 ∧ (mN 184).cls = cN 12 := by decide +kernel
theorem hD_M_isSign (N : Nat) {r : Int32 × MH} : ∀ n pc lv st h, D_M_isSign N n pc lv st h = some r → ∃ lv', (∀ q ∈ lv', q ∈ lv) ∧ seg (C_M_isSign N) 2 1 rI T_M_isSign [0] (fun q lv st h => match Nat.ble (pc + 1) q with
    | true => D_M_isSign N n q lv st h
    | false => none) 400 true pc lv' st h = some r := by
  intro n pc lv st h hf
  unfold D_M_isSign at hf
  split at hf
  · rename_i hb
    have hb := Nat.eq_of_beq_eq_true hb
    subst hb
    split at hf
    · rename_i y0 e0 e1
      exact ⟨_, (sub_cons e0 (sub_cons e1 sub_nil)), (E_M_isSign_0 N n _ h).trans hf⟩
    · cases hf
  · skip
    cases hf
theorem hM_M_isSign (N : Nat) {r : Int32 × MH} : ∀ n pc lv st h, D_M_isSign N n pc lv st h = some r → pc < 22 := by
  intro n pc lv st h hf
  unfold D_M_isSign at hf
  split at hf
  · rename_i hb
    rw [Nat.eq_of_beq_eq_true hb]
    decide
  · skip
    cases hf
theorem s_M_isSign {l : Launch} {E : EV} {N : Nat} {as : List MV} {h : MH} {r : Int32 × MH} (hf : w_M_isSign (f_M_isSign N) as h = some r) : SndM l E false 0 184 as h (some (.inl r.1)) r.2 := by
  unfold w_M_isSign at hf
  split at hf
  · obtain ⟨m1, m2, m3, m4⟩ := mx_M_isSign
    refine snd_of (C := C_M_isSign N) (own := 12) (rz := 1) (lim := 115) rI_eq m2 m4 pl_184 (TB_in _ cw_184 rfl) ⟨(fun _ => ⟨_, _, _, _, _, _, rfl, rfl, by rw [m4]; rfl⟩), (fun z => by rw [m3] at z; cases z)⟩ (fun z => by cases z) KDL_take rfl rfl (fun z => by cases z) (fun z => by cases z) (fun _ => rfl) (by rw [m1]; exact Nat.le_of_ble_eq_true rfl)
      (fun _ _ _ _ z => by cases z)
      (fun _ _ _ _ z => by cases z)
      (fun _ _ _ _ z => by cases z)
      (fun _ _ _ _ z => by cases z)
      (fun p e R s m args below meth c Q n0 F hret => ?_)
    rw [m1] at F hret ⊢
    rw [mc_M_isSign] at F hret
    exact cuts_s (K := 400) (M := 22) (D := D_M_isSign N) (B := fun _ _ _ _ _ => none) F hret (chkT_ok chk_M_isSign) (hM_M_isSign N) (fun _ _ _ _ _ z => by cases z) (hD_M_isSign N) N 0 _ _ _ hf
  · cases hf
def T_M_key : List (List (Option RW)) := [
  [some (.aload_n 0, 1, [0], 0, 0), some (.getfield 223, 3, [12, 10, 0], 0, 0), none, none, some (.iconst 2, 1, [], 2, 0), some (.if_icmp .eq 5, 3, [10], 0, 0), none, none, some (.iconst (-1), 1, [], (-1), 0), some (.ireturn, 1, [], 0, 0), some (.iconst 0, 1, [], 0, 0), some (.istore_n 1, 1, [1], 0, 0), some (.iconst 1, 1, [], 1, 0), some (.istore_n 2, 1, [2], 0, 0), some (.iload_n 2, 1, [2], 0, 0), some (.ldc 238, 2, [9], 0, 0), none, some (.invokevirtual 240, 3, [6, 263, 1, 0], 0, 0), none, none, some (.if_icmp .ge 111, 3, [131], 0, 0), none, none, some (.iload_n 2, 1, [2], 0, 0), some (.istore_n 3, 1, [3], 0, 0), some (.ldc 238, 2, [9], 0, 0), none, some (.iload_n 3, 1, [3], 0, 0), some (.invokevirtual 246, 3, [6, 264, 2, 0], 0, 0), none, none, some (.bipush 32, 2, [], 32, 0)],
  [none, some (.if_icmp .eq 9, 3, [42], 0, 0), none, none, some (.iinc 3 1, 3, [3], 1, 0), none, none, some (.goto (-14), 3, [25], 0, 0), none, none, some (.iload_n 3, 1, [3], 0, 0), some (.iload_n 2, 1, [2], 0, 0), some (.isub, 1, [], 0, 0), some (.aload_n 0, 1, [0], 0, 0), some (.getfield 211, 3, [12, 12, 0], 0, 0), none, none, some (.aload_n 0, 1, [0], 0, 0), some (.getfield 217, 3, [12, 11, 0], 0, 0), none, none, some (.isub, 1, [], 0, 0), some (.if_icmp .ne 7, 3, [61], 0, 0), none, none, some (.iconst 1, 1, [], 1, 0), some (.goto 4, 3, [62], 0, 0), none, none, some (.iconst 0, 1, [], 0, 0), some (.istore 4, 2, [4], 0, 0), none],
  [some (.iload_n 2, 1, [2], 0, 0), some (.istore 5, 2, [5], 0, 0), none, some (.iload 5, 2, [5], 0, 0), none, some (.iload_n 3, 1, [3], 0, 0), some (.if_icmp .ge 44, 3, [114], 0, 0), none, none, some (.iload 4, 2, [4], 0, 0), none, some (.ifCond .eq 39, 3, [114], 0, 0), none, none, some (.ldc 238, 2, [9], 0, 0), none, some (.iload 5, 2, [5], 0, 0), none, some (.invokevirtual 246, 3, [6, 264, 2, 0], 0, 0), none, none, some (.aload_n 0, 1, [0], 0, 0), some (.aload_n 0, 1, [0], 0, 0), some (.getfield 217, 3, [12, 11, 0], 0, 0), none, none, some (.iload 5, 2, [5], 0, 0), none, some (.iadd, 1, [], 0, 0), some (.iload_n 2, 1, [2], 0, 0), some (.isub, 1, [], 0, 0), some (.invokevirtual 214, 3, [0, 180, 2, 0], 0, 0)],
  [none, none, some (.if_icmp .ne 7, 3, [105], 0, 0), none, none, some (.iconst 1, 1, [], 1, 0), some (.goto 4, 3, [106], 0, 0), none, none, some (.iconst 0, 1, [], 0, 0), some (.istore 4, 2, [4], 0, 0), none, some (.iinc 5 1, 3, [5], 1, 0), none, none, some (.goto (-44), 3, [67], 0, 0), none, none, some (.iload 4, 2, [4], 0, 0), none, some (.ifCond .eq 5, 3, [121], 0, 0), none, none, some (.iload_n 1, 1, [1], 0, 0), some (.ireturn, 1, [], 0, 0), some (.iinc 1 1, 3, [1], 1, 0), none, none, some (.iload_n 3, 1, [3], 0, 0), some (.iconst 1, 1, [], 1, 0), some (.iadd, 1, [], 0, 0), some (.istore_n 2, 1, [2], 0, 0)],
  [some (.goto (-114), 3, [14], 0, 0), none, none, some (.iconst (-1), 1, [], (-1), 0), some (.ireturn, 1, [], 0, 0)]]
def F_M_key_114 (N : Nat) (bk : (Int32 → Int32 → MH → Option (Int32 × MH)) × (Int32 → Int32 → Int32 → MH → Option (Int32 × MH)) × (Int32 → Int32 → Int32 → Int32 → Int32 → MH → Option (Int32 × MH))) (a1 : Int32) (a3 : Int32) (a4 : Int32) (h : MH) : Option (Int32 × MH) :=
  if a4 = 0 then
  (let v8 : Int32 := a1 + 1
  let v9 : Int32 := a3 + 1
  (bk.1) v8 v9 h)
  else
  (some (a1, h))
def F_M_key_67 (N : Nat) (bk : (Int32 → Int32 → MH → Option (Int32 × MH)) × (Int32 → Int32 → Int32 → MH → Option (Int32 × MH)) × (Int32 → Int32 → Int32 → Int32 → Int32 → MH → Option (Int32 × MH))) (a1 : Int32) (a2 : Int32) (a3 : Int32) (a4 : Int32) (a5 : Int32) (h : MH) : Option (Int32 × MH) :=
  if a3 ≤ a5 then
  (F_M_key_114 N bk a1 a3 a4 h)
  else
  (if a4 = 0 then
  (F_M_key_114 N bk a1 a3 a4 h)
  else
  ((f_String_charAt N 9 a5 h).bind (fun x4 =>
  (f_M_at N (((gI x4.2 68 11) + a5) - a2) x4.2).bind (fun x5 =>
  if x4.1 = x5.1 then
  (let v6 : Int32 := a5 + 1
  (bk.2.2) a1 a2 a3 1 v6 x5.2)
  else
  (let v7 : Int32 := a5 + 1
  (bk.2.2) a1 a2 a3 0 v7 x5.2)))))
def F_M_key_25 (N : Nat) (bk : (Int32 → Int32 → MH → Option (Int32 × MH)) × (Int32 → Int32 → Int32 → MH → Option (Int32 × MH)) × (Int32 → Int32 → Int32 → Int32 → Int32 → MH → Option (Int32 × MH))) (a1 : Int32) (a2 : Int32) (a3 : Int32) (h : MH) : Option (Int32 × MH) :=
  (f_String_charAt N 9 a3 h).bind (fun x2 =>
  if x2.1 = 32 then
  (if (a3 - a2) = ((gI x2.2 68 12) - (gI x2.2 68 11)) then
  (F_M_key_67 N bk a1 a2 a3 1 a2 x2.2)
  else
  (F_M_key_67 N bk a1 a2 a3 0 a2 x2.2))
  else
  (let v3 : Int32 := a3 + 1
  (bk.2.1) a1 a2 v3 x2.2))
def F_M_key_14 (N : Nat) (bk : (Int32 → Int32 → MH → Option (Int32 × MH)) × (Int32 → Int32 → Int32 → MH → Option (Int32 × MH)) × (Int32 → Int32 → Int32 → Int32 → Int32 → MH → Option (Int32 × MH))) (a1 : Int32) (a2 : Int32) (h : MH) : Option (Int32 × MH) :=
  (f_String_length N 9 h).bind (fun x1 =>
  if x1.1 ≤ a2 then
  (some ((-1), x1.2))
  else
  (F_M_key_25 N bk a1 a2 a2 x1.2))
def F_M_key_0 (N : Nat) (bk : (Int32 → Int32 → MH → Option (Int32 × MH)) × (Int32 → Int32 → Int32 → MH → Option (Int32 × MH)) × (Int32 → Int32 → Int32 → Int32 → Int32 → MH → Option (Int32 × MH))) (h : MH) : Option (Int32 × MH) :=
  if (gI h 68 10) = 2 then
  (F_M_key_14 N bk 0 1 h)
  else
  (some ((-1), h))
def L_M_key (N : Nat) : Nat → ((Int32 → Int32 → MH → Option (Int32 × MH)) × (Int32 → Int32 → Int32 → MH → Option (Int32 × MH)) × (Int32 → Int32 → Int32 → Int32 → Int32 → MH → Option (Int32 × MH)))
  | 0 => (fun _ _ _ => none, fun _ _ _ _ => none, fun _ _ _ _ _ _ => none)
  | n + 1 => (F_M_key_14 N (L_M_key N n), F_M_key_25 N (L_M_key N n), F_M_key_67 N (L_M_key N n))
def f_M_key (N : Nat) (h : MH) : Option (Int32 × MH) := F_M_key_0 N (L_M_key N N) h
def C_M_key (N : Nat) : MC := (KDL, false, (fun _ => 0), jsB, (fun j => match Nat.beq j 180 with
    | true => w_M_at (f_M_at N)
    | false => match Nat.beq j 263 with
    | true => w_String_length (f_String_length N)
    | false => match Nat.beq j 264 with
    | true => w_String_charAt (f_String_charAt N)
    | false => fun _ _ => none), (fun _ _ _ => none), (fun _ _ _ => none), (fun _ _ _ => none))
def D_M_key (N : Nat) (n pc : Nat) (lv : ML) (st : List MV) (h : MH) : Option (Int32 × MH) :=
  match Nat.beq pc 0 with
  | true => (match lk lv 0, st with
    | some (.inr (.inr (0, 12, 68))), [] => F_M_key_0 N (L_M_key N n) h
    | _, _ => none)
  | false => match Nat.beq pc 14 with
  | true => (match lk lv 0, lk lv 1, lk lv 2, st with
    | some (.inr (.inr (0, 12, 68))), some (.inl a1), some (.inl a2), [] => F_M_key_14 N (L_M_key N n) a1 a2 h
    | _, _, _, _ => none)
  | false => match Nat.beq pc 25 with
  | true => (match lk lv 0, lk lv 1, lk lv 2, lk lv 3, st with
    | some (.inr (.inr (0, 12, 68))), some (.inl a1), some (.inl a2), some (.inl a3), [] => F_M_key_25 N (L_M_key N n) a1 a2 a3 h
    | _, _, _, _, _ => none)
  | false => match Nat.beq pc 67 with
  | true => (match lk lv 0, lk lv 1, lk lv 2, lk lv 3, lk lv 4, lk lv 5, st with
    | some (.inr (.inr (0, 12, 68))), some (.inl a1), some (.inl a2), some (.inl a3), some (.inl a4), some (.inl a5), [] => F_M_key_67 N (L_M_key N n) a1 a2 a3 a4 a5 h
    | _, _, _, _, _, _, _ => none)
  | false => match Nat.beq pc 114 with
  | true => (match lk lv 0, lk lv 1, lk lv 3, lk lv 4, st with
    | some (.inr (.inr (0, 12, 68))), some (.inl a1), some (.inl a3), some (.inl a4), [] => F_M_key_114 N (L_M_key N n) a1 a3 a4 h
    | _, _, _, _, _ => none)
  | false => none
def B_M_key (N : Nat) (n pc : Nat) (lv : ML) (st : List MV) (h : MH) : Option (Int32 × MH) :=
  match Nat.beq pc 14 with
  | true => (match lk lv 0, lk lv 1, lk lv 2, st with
    | some (.inr (.inr (0, 12, 68))), some (.inl a1), some (.inl a2), [] => ((L_M_key N n).1) a1 a2 h
    | _, _, _, _ => none)
  | false => match Nat.beq pc 25 with
  | true => (match lk lv 0, lk lv 1, lk lv 2, lk lv 3, st with
    | some (.inr (.inr (0, 12, 68))), some (.inl a1), some (.inl a2), some (.inl a3), [] => ((L_M_key N n).2.1) a1 a2 a3 h
    | _, _, _, _, _ => none)
  | false => match Nat.beq pc 67 with
  | true => (match lk lv 0, lk lv 1, lk lv 2, lk lv 3, lk lv 4, lk lv 5, st with
    | some (.inr (.inr (0, 12, 68))), some (.inl a1), some (.inl a2), some (.inl a3), some (.inl a4), some (.inl a5), [] => ((L_M_key N n).2.2) a1 a2 a3 a4 a5 h
    | _, _, _, _, _, _, _ => none)
  | false => none
set_option maxRecDepth 1000000 in
theorem E_M_key_0 (N : Nat) (n : Nat) (h : MH) : seg (C_M_key N) 6 0 rI T_M_key [0, 14, 25, 67, 114] (fun q lv st h => match Nat.ble 1 q with
    | true => D_M_key N n q lv st h
    | false => B_M_key N n q lv st h) 400 true 0 [(0, .inr (.inr (0, 12, 68)))] [] h = F_M_key_0 N (L_M_key N n) h := (rfl)
set_option maxRecDepth 1000000 in
theorem E_M_key_14 (N : Nat) (n : Nat) (a1 : Int32) (a2 : Int32) (h : MH) : seg (C_M_key N) 6 0 rI T_M_key [0, 14, 25, 67, 114] (fun q lv st h => match Nat.ble 15 q with
    | true => D_M_key N n q lv st h
    | false => B_M_key N n q lv st h) 400 true 14 [(0, .inr (.inr (0, 12, 68))), (1, .inl a1), (2, .inl a2)] [] h = F_M_key_14 N (L_M_key N n) a1 a2 h := (rfl)
set_option maxRecDepth 1000000 in
theorem E_M_key_25 (N : Nat) (n : Nat) (a1 : Int32) (a2 : Int32) (a3 : Int32) (h : MH) : seg (C_M_key N) 6 0 rI T_M_key [0, 14, 25, 67, 114] (fun q lv st h => match Nat.ble 26 q with
    | true => D_M_key N n q lv st h
    | false => B_M_key N n q lv st h) 400 true 25 [(0, .inr (.inr (0, 12, 68))), (1, .inl a1), (2, .inl a2), (3, .inl a3)] [] h = F_M_key_25 N (L_M_key N n) a1 a2 a3 h := (rfl)
set_option maxRecDepth 1000000 in
theorem E_M_key_67 (N : Nat) (n : Nat) (a1 : Int32) (a2 : Int32) (a3 : Int32) (a4 : Int32) (a5 : Int32) (h : MH) : seg (C_M_key N) 6 0 rI T_M_key [0, 14, 25, 67, 114] (fun q lv st h => match Nat.ble 68 q with
    | true => D_M_key N n q lv st h
    | false => B_M_key N n q lv st h) 400 true 67 [(0, .inr (.inr (0, 12, 68))), (1, .inl a1), (2, .inl a2), (3, .inl a3), (4, .inl a4), (5, .inl a5)] [] h = F_M_key_67 N (L_M_key N n) a1 a2 a3 a4 a5 h := (rfl)
set_option maxRecDepth 1000000 in
theorem E_M_key_114 (N : Nat) (n : Nat) (a1 : Int32) (a3 : Int32) (a4 : Int32) (h : MH) : seg (C_M_key N) 6 0 rI T_M_key [0, 14, 25, 67, 114] (fun q lv st h => match Nat.ble 115 q with
    | true => D_M_key N n q lv st h
    | false => B_M_key N n q lv st h) 400 true 114 [(0, .inr (.inr (0, 12, 68))), (1, .inl a1), (3, .inl a3), (4, .inl a4)] [] h = F_M_key_114 N (L_M_key N n) a1 a3 a4 h := (rfl)
set_option maxRecDepth 1000000 in
theorem chk_M_key : chkT 12 false prog_14_method_23_code T_M_key = true := by decide +kernel
theorem mc_M_key : mC 185 = prog_14_method_23_code := by rfl
theorem mx_M_key : mL 185 = 6 ∧ mR 185 = some .int ∧ mK 185 = 1 ∧ (mN 185).cls = cN 12 := by decide +kernel
theorem hD_M_key (N : Nat) {r : Int32 × MH} : ∀ n pc lv st h, D_M_key N n pc lv st h = some r → ∃ lv', (∀ q ∈ lv', q ∈ lv) ∧ seg (C_M_key N) 6 0 rI T_M_key [0, 14, 25, 67, 114] (fun q lv st h => match Nat.ble (pc + 1) q with
    | true => D_M_key N n q lv st h
    | false => B_M_key N n q lv st h) 400 true pc lv' st h = some r := by
  intro n pc lv st h hf
  unfold D_M_key at hf
  split at hf
  · rename_i hb
    have hb := Nat.eq_of_beq_eq_true hb
    subst hb
    split at hf
    · rename_i e0
      exact ⟨_, (sub_cons e0 sub_nil), (E_M_key_0 N n h).trans hf⟩
    · cases hf
  · skip
    split at hf
    · rename_i hb
      have hb := Nat.eq_of_beq_eq_true hb
      subst hb
      split at hf
      · rename_i y0 y1 e0 e1 e2
        exact ⟨_, (sub_cons e0 (sub_cons e1 (sub_cons e2 sub_nil))), (E_M_key_14 N n _ _ h).trans hf⟩
      · cases hf
    · skip
      split at hf
      · rename_i hb
        have hb := Nat.eq_of_beq_eq_true hb
        subst hb
        split at hf
        · rename_i y0 y1 y2 e0 e1 e2 e3
          exact ⟨_, (sub_cons e0 (sub_cons e1 (sub_cons e2 (sub_cons e3 sub_nil)))), (E_M_key_25 N n _ _ _ h).trans hf⟩
        · cases hf
      · skip
        split at hf
        · rename_i hb
          have hb := Nat.eq_of_beq_eq_true hb
          subst hb
          split at hf
          · rename_i y0 y1 y2 y3 y4 e0 e1 e2 e3 e4 e5
            exact ⟨_, (sub_cons e0 (sub_cons e1 (sub_cons e2 (sub_cons e3 (sub_cons e4 (sub_cons e5 sub_nil)))))), (E_M_key_67 N n _ _ _ _ _ h).trans hf⟩
          · cases hf
        · skip
          split at hf
          · rename_i hb
            have hb := Nat.eq_of_beq_eq_true hb
            subst hb
            split at hf
            · rename_i y0 y1 y2 e0 e1 e2 e3
              exact ⟨_, (sub_cons e0 (sub_cons e1 (sub_cons e2 (sub_cons e3 sub_nil)))), (E_M_key_114 N n _ _ _ h).trans hf⟩
            · cases hf
          · skip
            cases hf
theorem hM_M_key (N : Nat) {r : Int32 × MH} : ∀ n pc lv st h, D_M_key N n pc lv st h = some r → pc < 133 := by
  intro n pc lv st h hf
  unfold D_M_key at hf
  split at hf
  · rename_i hb
    rw [Nat.eq_of_beq_eq_true hb]
    decide
  · skip
    split at hf
    · rename_i hb
      rw [Nat.eq_of_beq_eq_true hb]
      decide
    · skip
      split at hf
      · rename_i hb
        rw [Nat.eq_of_beq_eq_true hb]
        decide
      · skip
        split at hf
        · rename_i hb
          rw [Nat.eq_of_beq_eq_true hb]
          decide
        · skip
          split at hf
          · rename_i hb
            rw [Nat.eq_of_beq_eq_true hb]
            decide
          · skip
            cases hf
theorem hB_M_key (N : Nat) {r : Int32 × MH} : ∀ n pc lv st h, B_M_key N n pc lv st h = some r → ∃ k, n = k + 1 ∧ D_M_key N k pc lv st h = some r := by
  intro n pc lv st h hf
  unfold B_M_key at hf
  split at hf
  · rename_i hb
    have hb := Nat.eq_of_beq_eq_true hb
    subst hb
    cases n with
    | zero =>
      split at hf
      · cases hf
      · cases hf
    | succ k =>
      refine ⟨k, rfl, ?_⟩
      exact hf
  · skip
    split at hf
    · rename_i hb
      have hb := Nat.eq_of_beq_eq_true hb
      subst hb
      cases n with
      | zero =>
        split at hf
        · cases hf
        · cases hf
      | succ k =>
        refine ⟨k, rfl, ?_⟩
        exact hf
    · skip
      split at hf
      · rename_i hb
        have hb := Nat.eq_of_beq_eq_true hb
        subst hb
        cases n with
        | zero =>
          split at hf
          · cases hf
          · cases hf
        | succ k =>
          refine ⟨k, rfl, ?_⟩
          exact hf
      · skip
        cases hf
theorem s_M_key {l : Launch} {E : EV} {N : Nat} {as : List MV} {h : MH} {r : Int32 × MH} (hf : w_M_key (f_M_key N) as h = some r) : SndM l E false 4 185 as h (some (.inl r.1)) r.2 := by
  unfold w_M_key at hf
  split at hf
  · obtain ⟨m1, m2, m3, m4⟩ := mx_M_key
    refine snd_of (C := C_M_key N) (own := 12) (rz := 0) (lim := 115) rI_eq m2 m4 pl_185 (TB_in _ cw_185 rfl) ⟨(fun _ => ⟨_, _, _, _, _, _, rfl, rfl, by rw [m4]; rfl⟩), (fun z => by rw [m3] at z; cases z)⟩ (fun z => by cases z) KDL_take rfl rfl (fun z => by cases z) (fun z => by cases z) (fun _ => rfl) (by rw [m1]; exact Nat.le_of_ble_eq_true rfl)
      (fun j as h x z => by
      dsimp only [C_M_key] at z
      cases hb : Nat.beq j 180 with
      | true =>
        have hb := Nat.eq_of_beq_eq_true hb
        subst hb
        exact ⟨0, by decide, (fun z => by cases z), s_M_at z⟩
      | false =>
        rw [hb] at z
        dsimp only at z
        cases hb : Nat.beq j 263 with
        | true =>
          have hb := Nat.eq_of_beq_eq_true hb
          subst hb
          exact ⟨1, by decide, (fun z => by cases z), s_String_length z⟩
        | false =>
          rw [hb] at z
          dsimp only at z
          cases hb : Nat.beq j 264 with
          | true =>
            have hb := Nat.eq_of_beq_eq_true hb
            subst hb
            exact ⟨3, by decide, (fun z => by cases z), s_String_charAt z⟩
          | false =>
            rw [hb] at z
            dsimp only at z
            cases z)
      (fun _ _ _ _ z => by cases z)
      (fun _ _ _ _ z => by cases z)
      (fun _ _ _ _ z => by cases z)
      (fun p e R s m args below meth c Q n0 F hret => ?_)
    rw [m1] at F hret ⊢
    rw [mc_M_key] at F hret
    exact cuts_s (K := 400) (M := 133) (D := D_M_key N) (B := B_M_key N) F hret (chkT_ok chk_M_key) (hM_M_key N) (hB_M_key N) (hD_M_key N) N 0 _ _ _ hf
  · cases hf
def T_M_failsAt : List (List (Option RW)) := [
  [some (.aload_n 0, 1, [0], 0, 0), some (.getfield 254, 3, [12, 16, 0], 0, 0), none, none, some (.ifCond .ne 13, 3, [17], 0, 0), none, none, some (.aload_n 0, 1, [0], 0, 0), some (.iload_n 1, 1, [1], 0, 0), some (.putfield 254, 3, [12, 16, 0], 0, 0), none, none, some (.aload_n 0, 1, [0], 0, 0), some (.iload_n 2, 1, [2], 0, 0), some (.putfield 35, 3, [12, 15, 0], 0, 0), none, none, some (.iconst 0, 1, [], 0, 0), some (.ireturn, 1, [], 0, 0)]]
def f_M_failsAt (N : Nat) (a1 : Int32) (a2 : Int32) (h : MH) : Option (Int32 × MH) :=
  if (gI h 68 16) = 0 then
  (let h1 : MH := sI h 68 16 a1
  let h2 : MH := sI h1 68 15 a2
  some (0, h2))
  else
  (some (0, h))
def C_M_failsAt (N : Nat) : MC := (KDL, false, (fun _ => 0), jsB, (fun _ _ _ => none), (fun _ _ _ => none), (fun _ _ _ => none), (fun _ _ _ => none))
def D_M_failsAt (N : Nat) (n pc : Nat) (lv : ML) (st : List MV) (h : MH) : Option (Int32 × MH) :=
  match Nat.beq pc 0 with
  | true => (match lk lv 0, lk lv 1, lk lv 2, st with
    | some (.inr (.inr (0, 12, 68))), some (.inl a1), some (.inl a2), [] => f_M_failsAt N a1 a2 h
    | _, _, _, _ => none)
  | false => none
set_option maxRecDepth 1000000 in
theorem E_M_failsAt_0 (N : Nat) (n : Nat) (a1 : Int32) (a2 : Int32) (h : MH) : seg (C_M_failsAt N) 3 1 rI T_M_failsAt [0] (fun q lv st h => match Nat.ble 1 q with
    | true => D_M_failsAt N n q lv st h
    | false => none) 400 true 0 [(0, .inr (.inr (0, 12, 68))), (1, .inl a1), (2, .inl a2)] [] h = f_M_failsAt N a1 a2 h := (rfl)
set_option maxRecDepth 1000000 in
theorem chk_M_failsAt : chkT 12 false prog_14_method_25_code T_M_failsAt = true := by decide +kernel
theorem mc_M_failsAt : mC 187 = prog_14_method_25_code := by rfl
theorem mx_M_failsAt : mL 187 = 3 ∧ mR 187 = some .boolean ∧ mK 187 = 1 ∧ (mN 187).cls = cN 12 := by decide +kernel
theorem hD_M_failsAt (N : Nat) {r : Int32 × MH} : ∀ n pc lv st h, D_M_failsAt N n pc lv st h = some r → ∃ lv', (∀ q ∈ lv', q ∈ lv) ∧ seg (C_M_failsAt N) 3 1 rI T_M_failsAt [0] (fun q lv st h => match Nat.ble (pc + 1) q with
    | true => D_M_failsAt N n q lv st h
    | false => none) 400 true pc lv' st h = some r := by
  intro n pc lv st h hf
  unfold D_M_failsAt at hf
  split at hf
  · rename_i hb
    have hb := Nat.eq_of_beq_eq_true hb
    subst hb
    split at hf
    · rename_i y0 y1 e0 e1 e2
      exact ⟨_, (sub_cons e0 (sub_cons e1 (sub_cons e2 sub_nil))), (E_M_failsAt_0 N n _ _ h).trans hf⟩
    · cases hf
  · skip
    cases hf
theorem hM_M_failsAt (N : Nat) {r : Int32 × MH} : ∀ n pc lv st h, D_M_failsAt N n pc lv st h = some r → pc < 19 := by
  intro n pc lv st h hf
  unfold D_M_failsAt at hf
  split at hf
  · rename_i hb
    rw [Nat.eq_of_beq_eq_true hb]
    decide
  · skip
    cases hf
theorem s_M_failsAt {l : Launch} {E : EV} {N : Nat} {as : List MV} {h : MH} {r : Int32 × MH} (hf : w_M_failsAt (f_M_failsAt N) as h = some r) : SndM l E false 0 187 as h (some (.inl r.1)) r.2 := by
  unfold w_M_failsAt at hf
  split at hf
  · obtain ⟨m1, m2, m3, m4⟩ := mx_M_failsAt
    refine snd_of (C := C_M_failsAt N) (own := 12) (rz := 1) (lim := 115) rI_eq m2 m4 pl_187 (TB_in _ cw_187 rfl) ⟨(fun _ => ⟨_, _, _, _, _, _, rfl, rfl, by rw [m4]; rfl⟩), (fun z => by rw [m3] at z; cases z)⟩ (fun z => by cases z) KDL_take rfl rfl (fun z => by cases z) (fun z => by cases z) (fun _ => rfl) (by rw [m1]; exact Nat.le_of_ble_eq_true rfl)
      (fun _ _ _ _ z => by cases z)
      (fun _ _ _ _ z => by cases z)
      (fun _ _ _ _ z => by cases z)
      (fun _ _ _ _ z => by cases z)
      (fun p e R s m args below meth c Q n0 F hret => ?_)
    rw [m1] at F hret ⊢
    rw [mc_M_failsAt] at F hret
    exact cuts_s (K := 400) (M := 19) (D := D_M_failsAt N) (B := fun _ _ _ _ _ => none) F hret (chkT_ok chk_M_failsAt) (hM_M_failsAt N) (fun _ _ _ _ _ z => by cases z) (hD_M_failsAt N) N 0 _ _ _ hf
  · cases hf
def T_M_fails : List (List (Option RW)) := [
  [some (.aload_n 0, 1, [0], 0, 0), some (.aload_n 0, 1, [0], 0, 0), some (.getfield 223, 3, [12, 10, 0], 0, 0), none, none, some (.iconst 1, 1, [], 1, 0), some (.if_icmp .ne 7, 3, [13], 0, 0), none, none, some (.iconst 1, 1, [], 1, 0), some (.goto 4, 3, [14], 0, 0), none, none, some (.iload_n 1, 1, [1], 0, 0), some (.aload_n 0, 1, [0], 0, 0), some (.getfield 217, 3, [12, 11, 0], 0, 0), none, none, some (.invokevirtual 250, 3, [0, 187, 3, 0], 0, 0), none, none, some (.ireturn, 1, [], 0, 0)]]
def f_M_fails (N : Nat) (a1 : Int32) (h : MH) : Option (Int32 × MH) :=
  if (gI h 68 10) = 1 then
  ((f_M_failsAt N 1 (gI h 68 11) h).bind (fun x1 =>
  match narOK 1 x1.1 with
  | true => some (x1.1, x1.2)
  | false => none))
  else
  ((f_M_failsAt N a1 (gI h 68 11) h).bind (fun x2 =>
  match narOK 1 x2.1 with
  | true => some (x2.1, x2.2)
  | false => none))
def C_M_fails (N : Nat) : MC := (KDL, false, (fun _ => 0), jsB, (fun j => match Nat.beq j 187 with
    | true => w_M_failsAt (f_M_failsAt N)
    | false => fun _ _ => none), (fun _ _ _ => none), (fun _ _ _ => none), (fun _ _ _ => none))
def D_M_fails (N : Nat) (n pc : Nat) (lv : ML) (st : List MV) (h : MH) : Option (Int32 × MH) :=
  match Nat.beq pc 0 with
  | true => (match lk lv 0, lk lv 1, st with
    | some (.inr (.inr (0, 12, 68))), some (.inl a1), [] => f_M_fails N a1 h
    | _, _, _ => none)
  | false => none
set_option maxRecDepth 1000000 in
theorem E_M_fails_0 (N : Nat) (n : Nat) (a1 : Int32) (h : MH) : seg (C_M_fails N) 2 1 rI T_M_fails [0] (fun q lv st h => match Nat.ble 1 q with
    | true => D_M_fails N n q lv st h
    | false => none) 400 true 0 [(0, .inr (.inr (0, 12, 68))), (1, .inl a1)] [] h = f_M_fails N a1 h := (rfl)
set_option maxRecDepth 1000000 in
theorem chk_M_fails : chkT 12 false prog_14_method_24_code T_M_fails = true := by decide +kernel
theorem mc_M_fails : mC 186 = prog_14_method_24_code := by rfl
theorem mx_M_fails : mL 186 = 2 ∧ mR 186 = some .boolean ∧ mK 186 = 1 ∧ (mN 186).cls = cN 12 := by decide +kernel
theorem hD_M_fails (N : Nat) {r : Int32 × MH} : ∀ n pc lv st h, D_M_fails N n pc lv st h = some r → ∃ lv', (∀ q ∈ lv', q ∈ lv) ∧ seg (C_M_fails N) 2 1 rI T_M_fails [0] (fun q lv st h => match Nat.ble (pc + 1) q with
    | true => D_M_fails N n q lv st h
    | false => none) 400 true pc lv' st h = some r := by
  intro n pc lv st h hf
  unfold D_M_fails at hf
  split at hf
  · rename_i hb
    have hb := Nat.eq_of_beq_eq_true hb
    subst hb
    split at hf
    · rename_i y0 e0 e1
      exact ⟨_, (sub_cons e0 (sub_cons e1 sub_nil)), (E_M_fails_0 N n _ h).trans hf⟩
    · cases hf
  · skip
    cases hf
theorem hM_M_fails (N : Nat) {r : Int32 × MH} : ∀ n pc lv st h, D_M_fails N n pc lv st h = some r → pc < 22 := by
  intro n pc lv st h hf
  unfold D_M_fails at hf
  split at hf
  · rename_i hb
    rw [Nat.eq_of_beq_eq_true hb]
    decide
  · skip
    cases hf
theorem s_M_fails {l : Launch} {E : EV} {N : Nat} {as : List MV} {h : MH} {r : Int32 × MH} (hf : w_M_fails (f_M_fails N) as h = some r) : SndM l E false 1 186 as h (some (.inl r.1)) r.2 := by
  unfold w_M_fails at hf
  split at hf
  · obtain ⟨m1, m2, m3, m4⟩ := mx_M_fails
    refine snd_of (C := C_M_fails N) (own := 12) (rz := 1) (lim := 115) rI_eq m2 m4 pl_186 (TB_in _ cw_186 rfl) ⟨(fun _ => ⟨_, _, _, _, _, _, rfl, rfl, by rw [m4]; rfl⟩), (fun z => by rw [m3] at z; cases z)⟩ (fun z => by cases z) KDL_take rfl rfl (fun z => by cases z) (fun z => by cases z) (fun _ => rfl) (by rw [m1]; exact Nat.le_of_ble_eq_true rfl)
      (fun j as h x z => by
      dsimp only [C_M_fails] at z
      cases hb : Nat.beq j 187 with
      | true =>
        have hb := Nat.eq_of_beq_eq_true hb
        subst hb
        exact ⟨0, by decide, (fun z => by cases z), s_M_failsAt z⟩
      | false =>
        rw [hb] at z
        dsimp only at z
        cases z)
      (fun _ _ _ _ z => by cases z)
      (fun _ _ _ _ z => by cases z)
      (fun _ _ _ _ z => by cases z)
      (fun p e R s m args below meth c Q n0 F hret => ?_)
    rw [m1] at F hret ⊢
    rw [mc_M_fails] at F hret
    exact cuts_s (K := 400) (M := 22) (D := D_M_fails N) (B := fun _ _ _ _ _ => none) F hret (chkT_ok chk_M_fails) (hM_M_fails N) (fun _ _ _ _ _ z => by cases z) (hD_M_fails N) N 0 _ _ _ hf
  · cases hf
def T_M_wantKey : List (List (Option RW)) := [
  [some (.aload_n 0, 1, [0], 0, 0), some (.invokevirtual 257, 3, [0, 185, 1, 0], 0, 0), none, none, some (.iload_n 1, 1, [1], 0, 0), some (.if_icmp .eq 9, 3, [14], 0, 0), none, none, some (.aload_n 0, 1, [0], 0, 0), some (.iconst 2, 1, [], 2, 0), some (.invokevirtual 260, 3, [0, 186, 2, 0], 0, 0), none, none, some (.ireturn, 1, [], 0, 0), some (.aload_n 0, 1, [0], 0, 0), some (.invokevirtual 263, 3, [0, 183, 1, 3], 0, 0), none, none, some (.iconst 1, 1, [], 1, 0), some (.ireturn, 1, [], 0, 0)]]
def f_M_wantKey (N : Nat) (a1 : Int32) (h : MH) : Option (Int32 × MH) :=
  (f_M_key N h).bind (fun x1 =>
  if x1.1 = a1 then
  ((f_M_next N x1.2).bind (fun x2 =>
  some (1, x2)))
  else
  ((f_M_fails N 2 x1.2).bind (fun x3 =>
  match narOK 1 x3.1 with
  | true => some (x3.1, x3.2)
  | false => none)))
def C_M_wantKey (N : Nat) : MC := (KDL, false, (fun _ => 0), jsB, (fun j => match Nat.beq j 185 with
    | true => w_M_key (f_M_key N)
    | false => match Nat.beq j 186 with
    | true => w_M_fails (f_M_fails N)
    | false => fun _ _ => none), (fun _ _ _ => none), (fun _ _ _ => none), (fun j => match Nat.beq j 183 with
    | true => w_M_next (f_M_next N)
    | false => fun _ _ => none))
def D_M_wantKey (N : Nat) (n pc : Nat) (lv : ML) (st : List MV) (h : MH) : Option (Int32 × MH) :=
  match Nat.beq pc 0 with
  | true => (match lk lv 0, lk lv 1, st with
    | some (.inr (.inr (0, 12, 68))), some (.inl a1), [] => f_M_wantKey N a1 h
    | _, _, _ => none)
  | false => none
set_option maxRecDepth 1000000 in
theorem E_M_wantKey_0 (N : Nat) (n : Nat) (a1 : Int32) (h : MH) : seg (C_M_wantKey N) 2 1 rI T_M_wantKey [0] (fun q lv st h => match Nat.ble 1 q with
    | true => D_M_wantKey N n q lv st h
    | false => none) 400 true 0 [(0, .inr (.inr (0, 12, 68))), (1, .inl a1)] [] h = f_M_wantKey N a1 h := (rfl)
set_option maxRecDepth 1000000 in
theorem chk_M_wantKey : chkT 12 false prog_14_method_26_code T_M_wantKey = true := by decide +kernel
theorem mc_M_wantKey : mC 188 = prog_14_method_26_code := by rfl
theorem mx_M_wantKey : mL 188 = 2 ∧ mR 188 = some .boolean ∧ mK 188 = 1 ∧ (mN 188).cls = cN 12 := by decide +kernel
theorem hD_M_wantKey (N : Nat) {r : Int32 × MH} : ∀ n pc lv st h, D_M_wantKey N n pc lv st h = some r → ∃ lv', (∀ q ∈ lv', q ∈ lv) ∧ seg (C_M_wantKey N) 2 1 rI T_M_wantKey [0] (fun q lv st h => match Nat.ble (pc + 1) q with
    | true => D_M_wantKey N n q lv st h
    | false => none) 400 true pc lv' st h = some r := by
  intro n pc lv st h hf
  unfold D_M_wantKey at hf
  split at hf
  · rename_i hb
    have hb := Nat.eq_of_beq_eq_true hb
    subst hb
    split at hf
    · rename_i y0 e0 e1
      exact ⟨_, (sub_cons e0 (sub_cons e1 sub_nil)), (E_M_wantKey_0 N n _ h).trans hf⟩
    · cases hf
  · skip
    cases hf
theorem hM_M_wantKey (N : Nat) {r : Int32 × MH} : ∀ n pc lv st h, D_M_wantKey N n pc lv st h = some r → pc < 20 := by
  intro n pc lv st h hf
  unfold D_M_wantKey at hf
  split at hf
  · rename_i hb
    rw [Nat.eq_of_beq_eq_true hb]
    decide
  · skip
    cases hf
theorem s_M_wantKey {l : Launch} {E : EV} {N : Nat} {as : List MV} {h : MH} {r : Int32 × MH} (hf : w_M_wantKey (f_M_wantKey N) as h = some r) : SndM l E false 5 188 as h (some (.inl r.1)) r.2 := by
  unfold w_M_wantKey at hf
  split at hf
  · obtain ⟨m1, m2, m3, m4⟩ := mx_M_wantKey
    refine snd_of (C := C_M_wantKey N) (own := 12) (rz := 1) (lim := 115) rI_eq m2 m4 pl_188 (TB_in _ cw_188 rfl) ⟨(fun _ => ⟨_, _, _, _, _, _, rfl, rfl, by rw [m4]; rfl⟩), (fun z => by rw [m3] at z; cases z)⟩ (fun z => by cases z) KDL_take rfl rfl (fun z => by cases z) (fun z => by cases z) (fun _ => rfl) (by rw [m1]; exact Nat.le_of_ble_eq_true rfl)
      (fun j as h x z => by
      dsimp only [C_M_wantKey] at z
      cases hb : Nat.beq j 185 with
      | true =>
        have hb := Nat.eq_of_beq_eq_true hb
        subst hb
        exact ⟨4, by decide, (fun z => by cases z), s_M_key z⟩
      | false =>
        rw [hb] at z
        dsimp only at z
        cases hb : Nat.beq j 186 with
        | true =>
          have hb := Nat.eq_of_beq_eq_true hb
          subst hb
          exact ⟨1, by decide, (fun z => by cases z), s_M_fails z⟩
        | false =>
          rw [hb] at z
          dsimp only at z
          cases z)
      (fun _ _ _ _ z => by cases z)
      (fun _ _ _ _ z => by cases z)
      (fun j as h x z => by
      dsimp only [C_M_wantKey] at z
      cases hb : Nat.beq j 183 with
      | true =>
        have hb := Nat.eq_of_beq_eq_true hb
        subst hb
        exact ⟨1, by decide, (fun z => by cases z), s_M_next z⟩
      | false =>
        rw [hb] at z
        dsimp only at z
        cases z)
      (fun p e R s m args below meth c Q n0 F hret => ?_)
    rw [m1] at F hret ⊢
    rw [mc_M_wantKey] at F hret
    exact cuts_s (K := 400) (M := 20) (D := D_M_wantKey N) (B := fun _ _ _ _ _ => none) F hret (chkT_ok chk_M_wantKey) (hM_M_wantKey N) (fun _ _ _ _ _ z => by cases z) (hD_M_wantKey N) N 0 _ _ _ hf
  · cases hf
def T_M_wantEnd : List (List (Option RW)) := [
  [some (.aload_n 0, 1, [0], 0, 0), some (.bipush 59, 2, [], 59, 0), none, some (.invokevirtual 266, 3, [0, 184, 2, 0], 0, 0), none, none, some (.ifCond .ne 9, 3, [15], 0, 0), none, none, some (.aload_n 0, 1, [0], 0, 0), some (.iconst 2, 1, [], 2, 0), some (.invokevirtual 260, 3, [0, 186, 2, 0], 0, 0), none, none, some (.ireturn, 1, [], 0, 0), some (.iconst 1, 1, [], 1, 0), some (.ireturn, 1, [], 0, 0)]]
def f_M_wantEnd (N : Nat) (h : MH) : Option (Int32 × MH) :=
  (f_M_isSign N 59 h).bind (fun x1 =>
  if x1.1 = 0 then
  ((f_M_fails N 2 x1.2).bind (fun x2 =>
  match narOK 1 x2.1 with
  | true => some (x2.1, x2.2)
  | false => none))
  else
  (some (1, x1.2)))
def C_M_wantEnd (N : Nat) : MC := (KDL, false, (fun _ => 0), jsB, (fun j => match Nat.beq j 184 with
    | true => w_M_isSign (f_M_isSign N)
    | false => match Nat.beq j 186 with
    | true => w_M_fails (f_M_fails N)
    | false => fun _ _ => none), (fun _ _ _ => none), (fun _ _ _ => none), (fun _ _ _ => none))
def D_M_wantEnd (N : Nat) (n pc : Nat) (lv : ML) (st : List MV) (h : MH) : Option (Int32 × MH) :=
  match Nat.beq pc 0 with
  | true => (match lk lv 0, st with
    | some (.inr (.inr (0, 12, 68))), [] => f_M_wantEnd N h
    | _, _ => none)
  | false => none
set_option maxRecDepth 1000000 in
theorem E_M_wantEnd_0 (N : Nat) (n : Nat) (h : MH) : seg (C_M_wantEnd N) 1 1 rI T_M_wantEnd [0] (fun q lv st h => match Nat.ble 1 q with
    | true => D_M_wantEnd N n q lv st h
    | false => none) 400 true 0 [(0, .inr (.inr (0, 12, 68)))] [] h = f_M_wantEnd N h := (rfl)
set_option maxRecDepth 1000000 in
theorem chk_M_wantEnd : chkT 12 false prog_14_method_27_code T_M_wantEnd = true := by decide +kernel
theorem mc_M_wantEnd : mC 189 = prog_14_method_27_code := by rfl
theorem mx_M_wantEnd : mL 189 = 1 ∧ mR 189 = some .boolean ∧ mK 189 = 1 ∧ (mN 189).cls = cN 12 := by decide +kernel
theorem hD_M_wantEnd (N : Nat) {r : Int32 × MH} : ∀ n pc lv st h, D_M_wantEnd N n pc lv st h = some r → ∃ lv', (∀ q ∈ lv', q ∈ lv) ∧ seg (C_M_wantEnd N) 1 1 rI T_M_wantEnd [0] (fun q lv st h => match Nat.ble (pc + 1) q with
    | true => D_M_wantEnd N n q lv st h
    | false => none) 400 true pc lv' st h = some r := by
  intro n pc lv st h hf
  unfold D_M_wantEnd at hf
  split at hf
  · rename_i hb
    have hb := Nat.eq_of_beq_eq_true hb
    subst hb
    split at hf
    · rename_i e0
      exact ⟨_, (sub_cons e0 sub_nil), (E_M_wantEnd_0 N n h).trans hf⟩
    · cases hf
  · skip
    cases hf
theorem hM_M_wantEnd (N : Nat) {r : Int32 × MH} : ∀ n pc lv st h, D_M_wantEnd N n pc lv st h = some r → pc < 17 := by
  intro n pc lv st h hf
  unfold D_M_wantEnd at hf
  split at hf
  · rename_i hb
    rw [Nat.eq_of_beq_eq_true hb]
    decide
  · skip
    cases hf
theorem s_M_wantEnd {l : Launch} {E : EV} {N : Nat} {as : List MV} {h : MH} {r : Int32 × MH} (hf : w_M_wantEnd (f_M_wantEnd N) as h = some r) : SndM l E false 2 189 as h (some (.inl r.1)) r.2 := by
  unfold w_M_wantEnd at hf
  split at hf
  · obtain ⟨m1, m2, m3, m4⟩ := mx_M_wantEnd
    refine snd_of (C := C_M_wantEnd N) (own := 12) (rz := 1) (lim := 115) rI_eq m2 m4 pl_189 (TB_in _ cw_189 rfl) ⟨(fun _ => ⟨_, _, _, _, _, _, rfl, rfl, by rw [m4]; rfl⟩), (fun z => by rw [m3] at z; cases z)⟩ (fun z => by cases z) KDL_take rfl rfl (fun z => by cases z) (fun z => by cases z) (fun _ => rfl) (by rw [m1]; exact Nat.le_of_ble_eq_true rfl)
      (fun j as h x z => by
      dsimp only [C_M_wantEnd] at z
      cases hb : Nat.beq j 184 with
      | true =>
        have hb := Nat.eq_of_beq_eq_true hb
        subst hb
        exact ⟨0, by decide, (fun z => by cases z), s_M_isSign z⟩
      | false =>
        rw [hb] at z
        dsimp only at z
        cases hb : Nat.beq j 186 with
        | true =>
          have hb := Nat.eq_of_beq_eq_true hb
          subst hb
          exact ⟨1, by decide, (fun z => by cases z), s_M_fails z⟩
        | false =>
          rw [hb] at z
          dsimp only at z
          cases z)
      (fun _ _ _ _ z => by cases z)
      (fun _ _ _ _ z => by cases z)
      (fun _ _ _ _ z => by cases z)
      (fun p e R s m args below meth c Q n0 F hret => ?_)
    rw [m1] at F hret ⊢
    rw [mc_M_wantEnd] at F hret
    exact cuts_s (K := 400) (M := 17) (D := D_M_wantEnd N) (B := fun _ _ _ _ _ => none) F hret (chkT_ok chk_M_wantEnd) (hM_M_wantEnd N) (fun _ _ _ _ _ z => by cases z) (hD_M_wantEnd N) N 0 _ _ _ hf
  · cases hf
def T_M_nameHere : List (List (Option RW)) := [
  [some (.aload_n 0, 1, [0], 0, 0), some (.getfield 223, 3, [12, 10, 0], 0, 0), none, none, some (.iconst 2, 1, [], 2, 0), some (.if_icmp .ne 25, 3, [30], 0, 0), none, none, some (.aload_n 0, 1, [0], 0, 0), some (.getfield 211, 3, [12, 12, 0], 0, 0), none, none, some (.aload_n 0, 1, [0], 0, 0), some (.getfield 217, 3, [12, 11, 0], 0, 0), none, none, some (.isub, 1, [], 0, 0), some (.bipush 8, 2, [], 8, 0), none, some (.if_icmp .gt 11, 3, [30], 0, 0), none, none, some (.aload_n 0, 1, [0], 0, 0), some (.invokevirtual 257, 3, [0, 185, 1, 0], 0, 0), none, none, some (.iconst (-1), 1, [], (-1), 0), some (.if_icmp .eq 7, 3, [34], 0, 0), none, none, some (.ldc2_w 199, 3, [], 0, (-1)), none],
  [none, some (.lreturn, 1, [], 0, 0), some (.lconst 0, 1, [], 0, 0), some (.lstore_n 1, 1, [1], 0, 0), some (.aload_n 0, 1, [0], 0, 0), some (.getfield 217, 3, [12, 11, 0], 0, 0), none, none, some (.istore_n 3, 1, [3], 0, 0), some (.iload_n 3, 1, [3], 0, 0), some (.aload_n 0, 1, [0], 0, 0), some (.getfield 211, 3, [12, 12, 0], 0, 0), none, none, some (.if_icmp .ge 21, 3, [67], 0, 0), none, none, some (.lload_n 1, 1, [1], 0, 0), some (.bipush 8, 2, [], 8, 0), none, some (.lshl, 1, [], 0, 0), some (.aload_n 0, 1, [0], 0, 0), some (.iload_n 3, 1, [3], 0, 0), some (.invokevirtual 214, 3, [0, 180, 2, 0], 0, 0), none, none, some (.i2l, 1, [], 0, 0), some (.lor, 1, [], 0, 0), some (.lstore_n 1, 1, [1], 0, 0), some (.iinc 3 1, 3, [3], 1, 0), none, none],
  [some (.goto (-23), 3, [41], 0, 0), none, none, some (.lload_n 1, 1, [1], 0, 0), some (.lreturn, 1, [], 0, 0)]]
def F_M_nameHere_41 (N : Nat) (bk : (Int64 → Int32 → MH → Option (Int64 × MH))) (a1 : Int64) (a3 : Int32) (h : MH) : Option (Int64 × MH) :=
  if (gI h 68 12) ≤ a3 then
  (some (a1, h))
  else
  ((f_M_at N a3 h).bind (fun x3 =>
  let v4 : Int64 := (a1 <<< (Int32.toInt64 8 &&& 63)) ||| x3.1.toInt64
  let v5 : Int32 := a3 + 1
  bk v4 v5 x3.2))
def F_M_nameHere_0 (N : Nat) (bk : (Int64 → Int32 → MH → Option (Int64 × MH))) (h : MH) : Option (Int64 × MH) :=
  if (gI h 68 10) = 2 then
  (if 8 < ((gI h 68 12) - (gI h 68 11)) then
  (some ((-1), h))
  else
  ((f_M_key N h).bind (fun x1 =>
  if x1.1 = ((-1)) then
  (let v2 : Int32 := gI x1.2 68 11
  F_M_nameHere_41 N bk 0 v2 x1.2)
  else
  (some ((-1), x1.2)))))
  else
  (some ((-1), h))
def L_M_nameHere (N : Nat) : Nat → (Int64 → Int32 → MH → Option (Int64 × MH))
  | 0 => fun _ _ _ => none
  | n + 1 => F_M_nameHere_41 N (L_M_nameHere N n)
def f_M_nameHere (N : Nat) (h : MH) : Option (Int64 × MH) := F_M_nameHere_0 N (L_M_nameHere N N) h
def C_M_nameHere (N : Nat) : MC := (KDL, false, (fun _ => 0), jsB, (fun j => match Nat.beq j 180 with
    | true => w_M_at (f_M_at N)
    | false => match Nat.beq j 185 with
    | true => w_M_key (f_M_key N)
    | false => fun _ _ => none), (fun _ _ _ => none), (fun _ _ _ => none), (fun _ _ _ => none))
def D_M_nameHere (N : Nat) (n pc : Nat) (lv : ML) (st : List MV) (h : MH) : Option (Int64 × MH) :=
  match Nat.beq pc 0 with
  | true => (match lk lv 0, st with
    | some (.inr (.inr (0, 12, 68))), [] => F_M_nameHere_0 N (L_M_nameHere N n) h
    | _, _ => none)
  | false => match Nat.beq pc 41 with
  | true => (match lk lv 0, lk lv 1, lk lv 3, st with
    | some (.inr (.inr (0, 12, 68))), some (.inr (.inl a1)), some (.inl a3), [] => F_M_nameHere_41 N (L_M_nameHere N n) a1 a3 h
    | _, _, _, _ => none)
  | false => none
def B_M_nameHere (N : Nat) (n pc : Nat) (lv : ML) (st : List MV) (h : MH) : Option (Int64 × MH) :=
  match Nat.beq pc 41 with
  | true => (match lk lv 0, lk lv 1, lk lv 3, st with
    | some (.inr (.inr (0, 12, 68))), some (.inr (.inl a1)), some (.inl a3), [] => ((L_M_nameHere N n)) a1 a3 h
    | _, _, _, _ => none)
  | false => none
set_option maxRecDepth 1000000 in
theorem E_M_nameHere_0 (N : Nat) (n : Nat) (h : MH) : seg (C_M_nameHere N) 4 0 rJ T_M_nameHere [0, 41] (fun q lv st h => match Nat.ble 1 q with
    | true => D_M_nameHere N n q lv st h
    | false => B_M_nameHere N n q lv st h) 400 true 0 [(0, .inr (.inr (0, 12, 68)))] [] h = F_M_nameHere_0 N (L_M_nameHere N n) h := (rfl)
set_option maxRecDepth 1000000 in
theorem E_M_nameHere_41 (N : Nat) (n : Nat) (a1 : Int64) (a3 : Int32) (h : MH) : seg (C_M_nameHere N) 4 0 rJ T_M_nameHere [0, 41] (fun q lv st h => match Nat.ble 42 q with
    | true => D_M_nameHere N n q lv st h
    | false => B_M_nameHere N n q lv st h) 400 true 41 [(0, .inr (.inr (0, 12, 68))), (1, .inr (.inl a1)), (3, .inl a3)] [] h = F_M_nameHere_41 N (L_M_nameHere N n) a1 a3 h := (rfl)
set_option maxRecDepth 1000000 in
theorem chk_M_nameHere : chkT 12 false prog_14_method_28_code T_M_nameHere = true := by decide +kernel
theorem mc_M_nameHere : mC 190 = prog_14_method_28_code := by rfl
theorem mx_M_nameHere : mL 190 = 4 ∧ mR 190 = some .long ∧ mK 190 = 1 ∧ (mN 190).cls = cN 12 := by decide +kernel
theorem hD_M_nameHere (N : Nat) {r : Int64 × MH} : ∀ n pc lv st h, D_M_nameHere N n pc lv st h = some r → ∃ lv', (∀ q ∈ lv', q ∈ lv) ∧ seg (C_M_nameHere N) 4 0 rJ T_M_nameHere [0, 41] (fun q lv st h => match Nat.ble (pc + 1) q with
    | true => D_M_nameHere N n q lv st h
    | false => B_M_nameHere N n q lv st h) 400 true pc lv' st h = some r := by
  intro n pc lv st h hf
  unfold D_M_nameHere at hf
  split at hf
  · rename_i hb
    have hb := Nat.eq_of_beq_eq_true hb
    subst hb
    split at hf
    · rename_i e0
      exact ⟨_, (sub_cons e0 sub_nil), (E_M_nameHere_0 N n h).trans hf⟩
    · cases hf
  · skip
    split at hf
    · rename_i hb
      have hb := Nat.eq_of_beq_eq_true hb
      subst hb
      split at hf
      · rename_i y0 y1 e0 e1 e2
        exact ⟨_, (sub_cons e0 (sub_cons e1 (sub_cons e2 sub_nil))), (E_M_nameHere_41 N n _ _ h).trans hf⟩
      · cases hf
    · skip
      cases hf
theorem hM_M_nameHere (N : Nat) {r : Int64 × MH} : ∀ n pc lv st h, D_M_nameHere N n pc lv st h = some r → pc < 69 := by
  intro n pc lv st h hf
  unfold D_M_nameHere at hf
  split at hf
  · rename_i hb
    rw [Nat.eq_of_beq_eq_true hb]
    decide
  · skip
    split at hf
    · rename_i hb
      rw [Nat.eq_of_beq_eq_true hb]
      decide
    · skip
      cases hf
theorem hB_M_nameHere (N : Nat) {r : Int64 × MH} : ∀ n pc lv st h, B_M_nameHere N n pc lv st h = some r → ∃ k, n = k + 1 ∧ D_M_nameHere N k pc lv st h = some r := by
  intro n pc lv st h hf
  unfold B_M_nameHere at hf
  split at hf
  · rename_i hb
    have hb := Nat.eq_of_beq_eq_true hb
    subst hb
    cases n with
    | zero =>
      split at hf
      · cases hf
      · cases hf
    | succ k =>
      refine ⟨k, rfl, ?_⟩
      exact hf
  · skip
    cases hf
theorem s_M_nameHere {l : Launch} {E : EV} {N : Nat} {as : List MV} {h : MH} {r : Int64 × MH} (hf : w_M_nameHere (f_M_nameHere N) as h = some r) : SndM l E false 5 190 as h (some (.inr (.inl r.1))) r.2 := by
  unfold w_M_nameHere at hf
  split at hf
  · obtain ⟨m1, m2, m3, m4⟩ := mx_M_nameHere
    refine snd_of (C := C_M_nameHere N) (own := 12) (rz := 0) (lim := 115) rJ_eq m2 m4 pl_190 (TB_in _ cw_190 rfl) ⟨(fun _ => ⟨_, _, _, _, _, _, rfl, rfl, by rw [m4]; rfl⟩), (fun z => by rw [m3] at z; cases z)⟩ (fun z => by cases z) KDL_take rfl rfl (fun z => by cases z) (fun z => by cases z) (fun _ => rfl) (by rw [m1]; exact Nat.le_of_ble_eq_true rfl)
      (fun j as h x z => by
      dsimp only [C_M_nameHere] at z
      cases hb : Nat.beq j 180 with
      | true =>
        have hb := Nat.eq_of_beq_eq_true hb
        subst hb
        exact ⟨0, by decide, (fun z => by cases z), s_M_at z⟩
      | false =>
        rw [hb] at z
        dsimp only at z
        cases hb : Nat.beq j 185 with
        | true =>
          have hb := Nat.eq_of_beq_eq_true hb
          subst hb
          exact ⟨4, by decide, (fun z => by cases z), s_M_key z⟩
        | false =>
          rw [hb] at z
          dsimp only at z
          cases z)
      (fun _ _ _ _ z => by cases z)
      (fun _ _ _ _ z => by cases z)
      (fun _ _ _ _ z => by cases z)
      (fun p e R s m args below meth c Q n0 F hret => ?_)
    rw [m1] at F hret ⊢
    rw [mc_M_nameHere] at F hret
    exact cuts_s (K := 400) (M := 69) (D := D_M_nameHere N) (B := B_M_nameHere N) F hret (chkT_ok chk_M_nameHere) (hM_M_nameHere N) (hB_M_nameHere N) (hD_M_nameHere N) N 0 _ _ _ hf
  · cases hf
def T_M_sheetOf : List (List (Option RW)) := [
  [some (.iconst 0, 1, [], 0, 0), some (.istore_n 3, 1, [3], 0, 0), some (.iload_n 3, 1, [3], 0, 0), some (.aload_n 0, 1, [0], 0, 0), some (.getfield 269, 3, [12, 28, 0], 0, 0), none, none, some (.if_icmp .ge 22, 3, [29], 0, 0), none, none, some (.aload_n 0, 1, [0], 0, 0), some (.getfield 38, 3, [12, 17, 2, 2, 6, 6], 0, 0), none, none, some (.iload_n 3, 1, [3], 0, 0), some (.laload, 1, [], 0, 0), some (.lload_n 1, 1, [1], 0, 0), some (.lcmp, 1, [], 0, 0), some (.ifCond .ne 5, 3, [23], 0, 0), none, none, some (.iload_n 3, 1, [3], 0, 0), some (.ireturn, 1, [], 0, 0), some (.iinc 3 1, 3, [3], 1, 0), none, none, some (.goto (-24), 3, [2], 0, 0), none, none, some (.iconst (-1), 1, [], (-1), 0), some (.ireturn, 1, [], 0, 0)]]
def F_M_sheetOf_2 (N : Nat) (bk : (Int64 → Int32 → MH → Option (Int32 × MH))) (a1 : Int64) (a3 : Int32) (h : MH) : Option (Int32 × MH) :=
  if (gI h 68 28) ≤ a3 then
  (some ((-1), h))
  else
  (if inB a3 6 = true then
  (if (lg_cmp (gJ h 74 (iN a3)) a1) = 0 then
  (some (a3, h))
  else
  (let v1 : Int32 := a3 + 1
  bk a1 v1 h))
  else none)
def F_M_sheetOf_0 (N : Nat) (bk : (Int64 → Int32 → MH → Option (Int32 × MH))) (a1 : Int64) (h : MH) : Option (Int32 × MH) :=
  F_M_sheetOf_2 N bk a1 0 h
def L_M_sheetOf (N : Nat) : Nat → (Int64 → Int32 → MH → Option (Int32 × MH))
  | 0 => fun _ _ _ => none
  | n + 1 => F_M_sheetOf_2 N (L_M_sheetOf N n)
def f_M_sheetOf (N : Nat) (a1 : Int64) (h : MH) : Option (Int32 × MH) := F_M_sheetOf_0 N (L_M_sheetOf N N) a1 h
def C_M_sheetOf (N : Nat) : MC := (KDL, false, (fun _ => 0), jsB, (fun _ _ _ => none), (fun _ _ _ => none), (fun _ _ _ => none), (fun _ _ _ => none))
def D_M_sheetOf (N : Nat) (n pc : Nat) (lv : ML) (st : List MV) (h : MH) : Option (Int32 × MH) :=
  match Nat.beq pc 0 with
  | true => (match lk lv 0, lk lv 1, st with
    | some (.inr (.inr (0, 12, 68))), some (.inr (.inl a1)), [] => F_M_sheetOf_0 N (L_M_sheetOf N n) a1 h
    | _, _, _ => none)
  | false => match Nat.beq pc 2 with
  | true => (match lk lv 0, lk lv 1, lk lv 3, st with
    | some (.inr (.inr (0, 12, 68))), some (.inr (.inl a1)), some (.inl a3), [] => F_M_sheetOf_2 N (L_M_sheetOf N n) a1 a3 h
    | _, _, _, _ => none)
  | false => none
def B_M_sheetOf (N : Nat) (n pc : Nat) (lv : ML) (st : List MV) (h : MH) : Option (Int32 × MH) :=
  match Nat.beq pc 2 with
  | true => (match lk lv 0, lk lv 1, lk lv 3, st with
    | some (.inr (.inr (0, 12, 68))), some (.inr (.inl a1)), some (.inl a3), [] => ((L_M_sheetOf N n)) a1 a3 h
    | _, _, _, _ => none)
  | false => none
set_option maxRecDepth 1000000 in
theorem E_M_sheetOf_0 (N : Nat) (n : Nat) (a1 : Int64) (h : MH) : seg (C_M_sheetOf N) 4 0 rI T_M_sheetOf [0, 2] (fun q lv st h => match Nat.ble 1 q with
    | true => D_M_sheetOf N n q lv st h
    | false => B_M_sheetOf N n q lv st h) 400 true 0 [(0, .inr (.inr (0, 12, 68))), (1, .inr (.inl a1))] [] h = F_M_sheetOf_0 N (L_M_sheetOf N n) a1 h := (rfl)
set_option maxRecDepth 1000000 in
theorem E_M_sheetOf_2 (N : Nat) (n : Nat) (a1 : Int64) (a3 : Int32) (h : MH) : seg (C_M_sheetOf N) 4 0 rI T_M_sheetOf [0, 2] (fun q lv st h => match Nat.ble 3 q with
    | true => D_M_sheetOf N n q lv st h
    | false => B_M_sheetOf N n q lv st h) 400 true 2 [(0, .inr (.inr (0, 12, 68))), (1, .inr (.inl a1)), (3, .inl a3)] [] h = F_M_sheetOf_2 N (L_M_sheetOf N n) a1 a3 h := (rfl)
set_option maxRecDepth 1000000 in
theorem chk_M_sheetOf : chkT 12 false prog_14_method_29_code T_M_sheetOf = true := by decide +kernel
theorem mc_M_sheetOf : mC 191 = prog_14_method_29_code := by rfl
theorem mx_M_sheetOf : mL 191 = 4 ∧ mR 191 = some .int ∧ mK 191 = 1 ∧ (mN 191).cls = cN 12 := by decide +kernel
theorem hD_M_sheetOf (N : Nat) {r : Int32 × MH} : ∀ n pc lv st h, D_M_sheetOf N n pc lv st h = some r → ∃ lv', (∀ q ∈ lv', q ∈ lv) ∧ seg (C_M_sheetOf N) 4 0 rI T_M_sheetOf [0, 2] (fun q lv st h => match Nat.ble (pc + 1) q with
    | true => D_M_sheetOf N n q lv st h
    | false => B_M_sheetOf N n q lv st h) 400 true pc lv' st h = some r := by
  intro n pc lv st h hf
  unfold D_M_sheetOf at hf
  split at hf
  · rename_i hb
    have hb := Nat.eq_of_beq_eq_true hb
    subst hb
    split at hf
    · rename_i y0 e0 e1
      exact ⟨_, (sub_cons e0 (sub_cons e1 sub_nil)), (E_M_sheetOf_0 N n _ h).trans hf⟩
    · cases hf
  · skip
    split at hf
    · rename_i hb
      have hb := Nat.eq_of_beq_eq_true hb
      subst hb
      split at hf
      · rename_i y0 y1 e0 e1 e2
        exact ⟨_, (sub_cons e0 (sub_cons e1 (sub_cons e2 sub_nil))), (E_M_sheetOf_2 N n _ _ h).trans hf⟩
      · cases hf
    · skip
      cases hf
theorem hM_M_sheetOf (N : Nat) {r : Int32 × MH} : ∀ n pc lv st h, D_M_sheetOf N n pc lv st h = some r → pc < 31 := by
  intro n pc lv st h hf
  unfold D_M_sheetOf at hf
  split at hf
  · rename_i hb
    rw [Nat.eq_of_beq_eq_true hb]
    decide
  · skip
    split at hf
    · rename_i hb
      rw [Nat.eq_of_beq_eq_true hb]
      decide
    · skip
      cases hf
theorem hB_M_sheetOf (N : Nat) {r : Int32 × MH} : ∀ n pc lv st h, B_M_sheetOf N n pc lv st h = some r → ∃ k, n = k + 1 ∧ D_M_sheetOf N k pc lv st h = some r := by
  intro n pc lv st h hf
  unfold B_M_sheetOf at hf
  split at hf
  · rename_i hb
    have hb := Nat.eq_of_beq_eq_true hb
    subst hb
    cases n with
    | zero =>
      split at hf
      · cases hf
      · cases hf
    | succ k =>
      refine ⟨k, rfl, ?_⟩
      exact hf
  · skip
    cases hf
theorem s_M_sheetOf {l : Launch} {E : EV} {N : Nat} {as : List MV} {h : MH} {r : Int32 × MH} (hf : w_M_sheetOf (f_M_sheetOf N) as h = some r) : SndM l E false 0 191 as h (some (.inl r.1)) r.2 := by
  unfold w_M_sheetOf at hf
  split at hf
  · obtain ⟨m1, m2, m3, m4⟩ := mx_M_sheetOf
    refine snd_of (C := C_M_sheetOf N) (own := 12) (rz := 0) (lim := 115) rI_eq m2 m4 pl_191 (TB_in _ cw_191 rfl) ⟨(fun _ => ⟨_, _, _, _, _, _, rfl, rfl, by rw [m4]; rfl⟩), (fun z => by rw [m3] at z; cases z)⟩ (fun z => by cases z) KDL_take rfl rfl (fun z => by cases z) (fun z => by cases z) (fun _ => rfl) (by rw [m1]; exact Nat.le_of_ble_eq_true rfl)
      (fun _ _ _ _ z => by cases z)
      (fun _ _ _ _ z => by cases z)
      (fun _ _ _ _ z => by cases z)
      (fun _ _ _ _ z => by cases z)
      (fun p e R s m args below meth c Q n0 F hret => ?_)
    rw [m1] at F hret ⊢
    rw [mc_M_sheetOf] at F hret
    exact cuts_s (K := 400) (M := 31) (D := D_M_sheetOf N) (B := B_M_sheetOf N) F hret (chkT_ok chk_M_sheetOf) (hM_M_sheetOf N) (hB_M_sheetOf N) (hD_M_sheetOf N) N 0 _ _ _ hf
  · cases hf
def T_M_markOf : List (List (Option RW)) := [
  [some (.iconst 0, 1, [], 0, 0), some (.istore_n 3, 1, [3], 0, 0), some (.iload_n 3, 1, [3], 0, 0), some (.aload_n 0, 1, [0], 0, 0), some (.getfield 272, 3, [12, 30, 0], 0, 0), none, none, some (.if_icmp .ge 22, 3, [29], 0, 0), none, none, some (.aload_n 0, 1, [0], 0, 0), some (.getfield 41, 3, [12, 18, 2, 2, 8, 7], 0, 0), none, none, some (.iload_n 3, 1, [3], 0, 0), some (.laload, 1, [], 0, 0), some (.lload_n 1, 1, [1], 0, 0), some (.lcmp, 1, [], 0, 0), some (.ifCond .ne 5, 3, [23], 0, 0), none, none, some (.iload_n 3, 1, [3], 0, 0), some (.ireturn, 1, [], 0, 0), some (.iinc 3 1, 3, [3], 1, 0), none, none, some (.goto (-24), 3, [2], 0, 0), none, none, some (.iconst (-1), 1, [], (-1), 0), some (.ireturn, 1, [], 0, 0)]]
def F_M_markOf_2 (N : Nat) (bk : (Int64 → Int32 → MH → Option (Int32 × MH))) (a1 : Int64) (a3 : Int32) (h : MH) : Option (Int32 × MH) :=
  if (gI h 68 30) ≤ a3 then
  (some ((-1), h))
  else
  (if inB a3 8 = true then
  (if (lg_cmp (gJ h 75 (iN a3)) a1) = 0 then
  (some (a3, h))
  else
  (let v1 : Int32 := a3 + 1
  bk a1 v1 h))
  else none)
def F_M_markOf_0 (N : Nat) (bk : (Int64 → Int32 → MH → Option (Int32 × MH))) (a1 : Int64) (h : MH) : Option (Int32 × MH) :=
  F_M_markOf_2 N bk a1 0 h
def L_M_markOf (N : Nat) : Nat → (Int64 → Int32 → MH → Option (Int32 × MH))
  | 0 => fun _ _ _ => none
  | n + 1 => F_M_markOf_2 N (L_M_markOf N n)
def f_M_markOf (N : Nat) (a1 : Int64) (h : MH) : Option (Int32 × MH) := F_M_markOf_0 N (L_M_markOf N N) a1 h
def C_M_markOf (N : Nat) : MC := (KDL, false, (fun _ => 0), jsB, (fun _ _ _ => none), (fun _ _ _ => none), (fun _ _ _ => none), (fun _ _ _ => none))
def D_M_markOf (N : Nat) (n pc : Nat) (lv : ML) (st : List MV) (h : MH) : Option (Int32 × MH) :=
  match Nat.beq pc 0 with
  | true => (match lk lv 0, lk lv 1, st with
    | some (.inr (.inr (0, 12, 68))), some (.inr (.inl a1)), [] => F_M_markOf_0 N (L_M_markOf N n) a1 h
    | _, _, _ => none)
  | false => match Nat.beq pc 2 with
  | true => (match lk lv 0, lk lv 1, lk lv 3, st with
    | some (.inr (.inr (0, 12, 68))), some (.inr (.inl a1)), some (.inl a3), [] => F_M_markOf_2 N (L_M_markOf N n) a1 a3 h
    | _, _, _, _ => none)
  | false => none
def B_M_markOf (N : Nat) (n pc : Nat) (lv : ML) (st : List MV) (h : MH) : Option (Int32 × MH) :=
  match Nat.beq pc 2 with
  | true => (match lk lv 0, lk lv 1, lk lv 3, st with
    | some (.inr (.inr (0, 12, 68))), some (.inr (.inl a1)), some (.inl a3), [] => ((L_M_markOf N n)) a1 a3 h
    | _, _, _, _ => none)
  | false => none
set_option maxRecDepth 1000000 in
theorem E_M_markOf_0 (N : Nat) (n : Nat) (a1 : Int64) (h : MH) : seg (C_M_markOf N) 4 0 rI T_M_markOf [0, 2] (fun q lv st h => match Nat.ble 1 q with
    | true => D_M_markOf N n q lv st h
    | false => B_M_markOf N n q lv st h) 400 true 0 [(0, .inr (.inr (0, 12, 68))), (1, .inr (.inl a1))] [] h = F_M_markOf_0 N (L_M_markOf N n) a1 h := (rfl)
set_option maxRecDepth 1000000 in
theorem E_M_markOf_2 (N : Nat) (n : Nat) (a1 : Int64) (a3 : Int32) (h : MH) : seg (C_M_markOf N) 4 0 rI T_M_markOf [0, 2] (fun q lv st h => match Nat.ble 3 q with
    | true => D_M_markOf N n q lv st h
    | false => B_M_markOf N n q lv st h) 400 true 2 [(0, .inr (.inr (0, 12, 68))), (1, .inr (.inl a1)), (3, .inl a3)] [] h = F_M_markOf_2 N (L_M_markOf N n) a1 a3 h := (rfl)
set_option maxRecDepth 1000000 in
theorem chk_M_markOf : chkT 12 false prog_14_method_30_code T_M_markOf = true := by decide +kernel
theorem mc_M_markOf : mC 192 = prog_14_method_30_code := by rfl
theorem mx_M_markOf : mL 192 = 4 ∧ mR 192 = some .int ∧ mK 192 = 1 ∧ (mN 192).cls = cN 12 := by decide +kernel
theorem hD_M_markOf (N : Nat) {r : Int32 × MH} : ∀ n pc lv st h, D_M_markOf N n pc lv st h = some r → ∃ lv', (∀ q ∈ lv', q ∈ lv) ∧ seg (C_M_markOf N) 4 0 rI T_M_markOf [0, 2] (fun q lv st h => match Nat.ble (pc + 1) q with
    | true => D_M_markOf N n q lv st h
    | false => B_M_markOf N n q lv st h) 400 true pc lv' st h = some r := by
  intro n pc lv st h hf
  unfold D_M_markOf at hf
  split at hf
  · rename_i hb
    have hb := Nat.eq_of_beq_eq_true hb
    subst hb
    split at hf
    · rename_i y0 e0 e1
      exact ⟨_, (sub_cons e0 (sub_cons e1 sub_nil)), (E_M_markOf_0 N n _ h).trans hf⟩
    · cases hf
  · skip
    split at hf
    · rename_i hb
      have hb := Nat.eq_of_beq_eq_true hb
      subst hb
      split at hf
      · rename_i y0 y1 e0 e1 e2
        exact ⟨_, (sub_cons e0 (sub_cons e1 (sub_cons e2 sub_nil))), (E_M_markOf_2 N n _ _ h).trans hf⟩
      · cases hf
    · skip
      cases hf
theorem hM_M_markOf (N : Nat) {r : Int32 × MH} : ∀ n pc lv st h, D_M_markOf N n pc lv st h = some r → pc < 31 := by
  intro n pc lv st h hf
  unfold D_M_markOf at hf
  split at hf
  · rename_i hb
    rw [Nat.eq_of_beq_eq_true hb]
    decide
  · skip
    split at hf
    · rename_i hb
      rw [Nat.eq_of_beq_eq_true hb]
      decide
    · skip
      cases hf
theorem hB_M_markOf (N : Nat) {r : Int32 × MH} : ∀ n pc lv st h, B_M_markOf N n pc lv st h = some r → ∃ k, n = k + 1 ∧ D_M_markOf N k pc lv st h = some r := by
  intro n pc lv st h hf
  unfold B_M_markOf at hf
  split at hf
  · rename_i hb
    have hb := Nat.eq_of_beq_eq_true hb
    subst hb
    cases n with
    | zero =>
      split at hf
      · cases hf
      · cases hf
    | succ k =>
      refine ⟨k, rfl, ?_⟩
      exact hf
  · skip
    cases hf
theorem s_M_markOf {l : Launch} {E : EV} {N : Nat} {as : List MV} {h : MH} {r : Int32 × MH} (hf : w_M_markOf (f_M_markOf N) as h = some r) : SndM l E false 0 192 as h (some (.inl r.1)) r.2 := by
  unfold w_M_markOf at hf
  split at hf
  · obtain ⟨m1, m2, m3, m4⟩ := mx_M_markOf
    refine snd_of (C := C_M_markOf N) (own := 12) (rz := 0) (lim := 115) rI_eq m2 m4 pl_192 (TB_in _ cw_192 rfl) ⟨(fun _ => ⟨_, _, _, _, _, _, rfl, rfl, by rw [m4]; rfl⟩), (fun z => by rw [m3] at z; cases z)⟩ (fun z => by cases z) KDL_take rfl rfl (fun z => by cases z) (fun z => by cases z) (fun _ => rfl) (by rw [m1]; exact Nat.le_of_ble_eq_true rfl)
      (fun _ _ _ _ z => by cases z)
      (fun _ _ _ _ z => by cases z)
      (fun _ _ _ _ z => by cases z)
      (fun _ _ _ _ z => by cases z)
      (fun p e R s m args below meth c Q n0 F hret => ?_)
    rw [m1] at F hret ⊢
    rw [mc_M_markOf] at F hret
    exact cuts_s (K := 400) (M := 31) (D := D_M_markOf N) (B := B_M_markOf N) F hret (chkT_ok chk_M_markOf) (hM_M_markOf N) (hB_M_markOf N) (hD_M_markOf N) N 0 _ _ _ hf
  · cases hf
def T_M_number : List (List (Option RW)) := [
  [some (.aload_n 0, 1, [0], 0, 0), some (.getfield 223, 3, [12, 10, 0], 0, 0), none, none, some (.iconst 3, 1, [], 3, 0), some (.if_icmp .eq 9, 3, [14], 0, 0), none, none, some (.aload_n 0, 1, [0], 0, 0), some (.iconst 2, 1, [], 2, 0), some (.invokevirtual 260, 3, [0, 186, 2, 0], 0, 0), none, none, some (.ireturn, 1, [], 0, 0), some (.aload_n 0, 1, [0], 0, 0), some (.getfield 220, 3, [12, 13, 0], 0, 0), none, none, some (.iload_n 1, 1, [1], 0, 0), some (.if_icmp .lt 11, 3, [30], 0, 0), none, none, some (.aload_n 0, 1, [0], 0, 0), some (.getfield 220, 3, [12, 13, 0], 0, 0), none, none, some (.iload_n 2, 1, [2], 0, 0), some (.if_icmp .le 9, 3, [36], 0, 0), none, none, some (.aload_n 0, 1, [0], 0, 0), some (.iconst 4, 1, [], 4, 0)],
  [some (.invokevirtual 260, 3, [0, 186, 2, 0], 0, 0), none, none, some (.ireturn, 1, [], 0, 0), some (.aload_n 0, 1, [0], 0, 0), some (.aload_n 0, 1, [0], 0, 0), some (.getfield 220, 3, [12, 13, 0], 0, 0), none, none, some (.putfield 275, 3, [12, 39, 0], 0, 0), none, none, some (.aload_n 0, 1, [0], 0, 0), some (.invokevirtual 263, 3, [0, 183, 1, 3], 0, 0), none, none, some (.iconst 1, 1, [], 1, 0), some (.ireturn, 1, [], 0, 0)]]
def f_M_number (N : Nat) (a1 : Int32) (a2 : Int32) (h : MH) : Option (Int32 × MH) :=
  if (gI h 68 10) = 3 then
  (if (gI h 68 13) < a1 then
  ((f_M_fails N 4 h).bind (fun x1 =>
  match narOK 1 x1.1 with
  | true => some (x1.1, x1.2)
  | false => none))
  else
  (if (gI h 68 13) ≤ a2 then
  (let h2 : MH := sI h 68 39 (gI h 68 13)
  (f_M_next N h2).bind (fun x3 =>
  some (1, x3)))
  else
  ((f_M_fails N 4 h).bind (fun x4 =>
  match narOK 1 x4.1 with
  | true => some (x4.1, x4.2)
  | false => none))))
  else
  ((f_M_fails N 2 h).bind (fun x5 =>
  match narOK 1 x5.1 with
  | true => some (x5.1, x5.2)
  | false => none))
def C_M_number (N : Nat) : MC := (KDL, false, (fun _ => 0), jsB, (fun j => match Nat.beq j 186 with
    | true => w_M_fails (f_M_fails N)
    | false => fun _ _ => none), (fun _ _ _ => none), (fun _ _ _ => none), (fun j => match Nat.beq j 183 with
    | true => w_M_next (f_M_next N)
    | false => fun _ _ => none))
def D_M_number (N : Nat) (n pc : Nat) (lv : ML) (st : List MV) (h : MH) : Option (Int32 × MH) :=
  match Nat.beq pc 0 with
  | true => (match lk lv 0, lk lv 1, lk lv 2, st with
    | some (.inr (.inr (0, 12, 68))), some (.inl a1), some (.inl a2), [] => f_M_number N a1 a2 h
    | _, _, _, _ => none)
  | false => none
set_option maxRecDepth 1000000 in
theorem E_M_number_0 (N : Nat) (n : Nat) (a1 : Int32) (a2 : Int32) (h : MH) : seg (C_M_number N) 3 1 rI T_M_number [0] (fun q lv st h => match Nat.ble 1 q with
    | true => D_M_number N n q lv st h
    | false => none) 400 true 0 [(0, .inr (.inr (0, 12, 68))), (1, .inl a1), (2, .inl a2)] [] h = f_M_number N a1 a2 h := (rfl)
set_option maxRecDepth 1000000 in
theorem chk_M_number : chkT 12 false prog_14_method_31_code T_M_number = true := by decide +kernel
theorem mc_M_number : mC 193 = prog_14_method_31_code := by rfl
theorem mx_M_number : mL 193 = 3 ∧ mR 193 = some .boolean ∧ mK 193 = 1 ∧ (mN 193).cls = cN 12 := by decide +kernel
theorem hD_M_number (N : Nat) {r : Int32 × MH} : ∀ n pc lv st h, D_M_number N n pc lv st h = some r → ∃ lv', (∀ q ∈ lv', q ∈ lv) ∧ seg (C_M_number N) 3 1 rI T_M_number [0] (fun q lv st h => match Nat.ble (pc + 1) q with
    | true => D_M_number N n q lv st h
    | false => none) 400 true pc lv' st h = some r := by
  intro n pc lv st h hf
  unfold D_M_number at hf
  split at hf
  · rename_i hb
    have hb := Nat.eq_of_beq_eq_true hb
    subst hb
    split at hf
    · rename_i y0 y1 e0 e1 e2
      exact ⟨_, (sub_cons e0 (sub_cons e1 (sub_cons e2 sub_nil))), (E_M_number_0 N n _ _ h).trans hf⟩
    · cases hf
  · skip
    cases hf
theorem hM_M_number (N : Nat) {r : Int32 × MH} : ∀ n pc lv st h, D_M_number N n pc lv st h = some r → pc < 50 := by
  intro n pc lv st h hf
  unfold D_M_number at hf
  split at hf
  · rename_i hb
    rw [Nat.eq_of_beq_eq_true hb]
    decide
  · skip
    cases hf
theorem s_M_number {l : Launch} {E : EV} {N : Nat} {as : List MV} {h : MH} {r : Int32 × MH} (hf : w_M_number (f_M_number N) as h = some r) : SndM l E false 2 193 as h (some (.inl r.1)) r.2 := by
  unfold w_M_number at hf
  split at hf
  · obtain ⟨m1, m2, m3, m4⟩ := mx_M_number
    refine snd_of (C := C_M_number N) (own := 12) (rz := 1) (lim := 115) rI_eq m2 m4 pl_193 (TB_in _ cw_193 rfl) ⟨(fun _ => ⟨_, _, _, _, _, _, rfl, rfl, by rw [m4]; rfl⟩), (fun z => by rw [m3] at z; cases z)⟩ (fun z => by cases z) KDL_take rfl rfl (fun z => by cases z) (fun z => by cases z) (fun _ => rfl) (by rw [m1]; exact Nat.le_of_ble_eq_true rfl)
      (fun j as h x z => by
      dsimp only [C_M_number] at z
      cases hb : Nat.beq j 186 with
      | true =>
        have hb := Nat.eq_of_beq_eq_true hb
        subst hb
        exact ⟨1, by decide, (fun z => by cases z), s_M_fails z⟩
      | false =>
        rw [hb] at z
        dsimp only at z
        cases z)
      (fun _ _ _ _ z => by cases z)
      (fun _ _ _ _ z => by cases z)
      (fun j as h x z => by
      dsimp only [C_M_number] at z
      cases hb : Nat.beq j 183 with
      | true =>
        have hb := Nat.eq_of_beq_eq_true hb
        subst hb
        exact ⟨1, by decide, (fun z => by cases z), s_M_next z⟩
      | false =>
        rw [hb] at z
        dsimp only at z
        cases z)
      (fun p e R s m args below meth c Q n0 F hret => ?_)
    rw [m1] at F hret ⊢
    rw [mc_M_number] at F hret
    exact cuts_s (K := 400) (M := 50) (D := D_M_number N) (B := fun _ _ _ _ _ => none) F hret (chkT_ok chk_M_number) (hM_M_number N) (fun _ _ _ _ _ z => by cases z) (hD_M_number N) N 0 _ _ _ hf
  · cases hf
def T_M_cell : List (List (Option RW)) := [
  [some (.aload_n 0, 1, [0], 0, 0), some (.invokevirtual 278, 3, [0, 190, 1, 1], 0, 0), none, none, some (.lstore_n 1, 1, [1], 0, 0), some (.lload_n 1, 1, [1], 0, 0), some (.ldc2_w 199, 3, [], 0, (-1)), none, none, some (.lcmp, 1, [], 0, 0), some (.ifCond .ne 9, 3, [19], 0, 0), none, none, some (.aload_n 0, 1, [0], 0, 0), some (.iconst 2, 1, [], 2, 0), some (.invokevirtual 260, 3, [0, 186, 2, 0], 0, 0), none, none, some (.ireturn, 1, [], 0, 0), some (.aload_n 0, 1, [0], 0, 0), some (.lload_n 1, 1, [1], 0, 0), some (.invokevirtual 282, 3, [0, 191, 2, 0], 0, 0), none, none, some (.istore_n 3, 1, [3], 0, 0), some (.iload_n 3, 1, [3], 0, 0), some (.iconst (-1), 1, [], (-1), 0), some (.if_icmp .ne 9, 3, [36], 0, 0), none, none, some (.aload_n 0, 1, [0], 0, 0), some (.iconst 3, 1, [], 3, 0)],
  [some (.invokevirtual 260, 3, [0, 186, 2, 0], 0, 0), none, none, some (.ireturn, 1, [], 0, 0), some (.aload_n 0, 1, [0], 0, 0), some (.invokevirtual 263, 3, [0, 183, 1, 3], 0, 0), none, none, some (.aload_n 0, 1, [0], 0, 0), some (.iconst 0, 1, [], 0, 0), some (.aload_n 0, 1, [0], 0, 0), some (.getfield 47, 3, [12, 20, 2, 1, 6, 9], 0, 0), none, none, some (.iload_n 3, 1, [3], 0, 0), some (.iaload, 1, [], 0, 0), some (.iconst 1, 1, [], 1, 0), some (.isub, 1, [], 0, 0), some (.invokevirtual 286, 3, [0, 193, 3, 0], 0, 0), none, none, some (.ifCond .ne 5, 3, [58], 0, 0), none, none, some (.iconst 0, 1, [], 0, 0), some (.ireturn, 1, [], 0, 0), some (.aload_n 0, 1, [0], 0, 0), some (.dup, 1, [], 0, 0), some (.getfield 275, 3, [12, 39, 0], 0, 0), none, none, some (.aload_n 0, 1, [0], 0, 0)],
  [some (.getfield 44, 3, [12, 19, 2, 1, 6, 8], 0, 0), none, none, some (.iload_n 3, 1, [3], 0, 0), some (.iaload, 1, [], 0, 0), some (.iadd, 1, [], 0, 0), some (.putfield 275, 3, [12, 39, 0], 0, 0), none, none, some (.iconst 1, 1, [], 1, 0), some (.ireturn, 1, [], 0, 0)]]
def f_M_cell (N : Nat) (h : MH) : Option (Int32 × MH) :=
  (f_M_nameHere N h).bind (fun x1 =>
  if (lg_cmp x1.1 ((-1))) = 0 then
  ((f_M_fails N 2 x1.2).bind (fun x2 =>
  match narOK 1 x2.1 with
  | true => some (x2.1, x2.2)
  | false => none))
  else
  ((f_M_sheetOf N x1.1 x1.2).bind (fun x3 =>
  if x3.1 = ((-1)) then
  ((f_M_fails N 3 x3.2).bind (fun x4 =>
  match narOK 1 x4.1 with
  | true => some (x4.1, x4.2)
  | false => none))
  else
  ((f_M_next N x3.2).bind (fun x5 =>
  if inB x3.1 6 = true then
  ((f_M_number N 0 ((gI x5 77 (iN x3.1)) - 1) x5).bind (fun x6 =>
  if x6.1 = 0 then
  (some (0, x6.2))
  else
  (if inB x3.1 6 = true then
  (let h7 : MH := sI x6.2 68 39 ((gI x6.2 68 39) + (gI x6.2 76 (iN x3.1)))
  some (1, h7))
  else none)))
  else none)))))
def C_M_cell (N : Nat) : MC := (KDL, false, (fun _ => 0), jsB, (fun j => match Nat.beq j 186 with
    | true => w_M_fails (f_M_fails N)
    | false => match Nat.beq j 191 with
    | true => w_M_sheetOf (f_M_sheetOf N)
    | false => match Nat.beq j 193 with
    | true => w_M_number (f_M_number N)
    | false => fun _ _ => none), (fun j => match Nat.beq j 190 with
    | true => w_M_nameHere (f_M_nameHere N)
    | false => fun _ _ => none), (fun _ _ _ => none), (fun j => match Nat.beq j 183 with
    | true => w_M_next (f_M_next N)
    | false => fun _ _ => none))
def D_M_cell (N : Nat) (n pc : Nat) (lv : ML) (st : List MV) (h : MH) : Option (Int32 × MH) :=
  match Nat.beq pc 0 with
  | true => (match lk lv 0, st with
    | some (.inr (.inr (0, 12, 68))), [] => f_M_cell N h
    | _, _ => none)
  | false => none
set_option maxRecDepth 1000000 in
theorem E_M_cell_0 (N : Nat) (n : Nat) (h : MH) : seg (C_M_cell N) 4 1 rI T_M_cell [0] (fun q lv st h => match Nat.ble 1 q with
    | true => D_M_cell N n q lv st h
    | false => none) 400 true 0 [(0, .inr (.inr (0, 12, 68)))] [] h = f_M_cell N h := (rfl)
set_option maxRecDepth 1000000 in
theorem chk_M_cell : chkT 12 false prog_14_method_32_code T_M_cell = true := by decide +kernel
theorem mc_M_cell : mC 194 = prog_14_method_32_code := by rfl
theorem mx_M_cell : mL 194 = 4 ∧ mR 194 = some .boolean ∧ mK 194 = 1 ∧ (mN 194).cls = cN 12 := by decide +kernel
theorem hD_M_cell (N : Nat) {r : Int32 × MH} : ∀ n pc lv st h, D_M_cell N n pc lv st h = some r → ∃ lv', (∀ q ∈ lv', q ∈ lv) ∧ seg (C_M_cell N) 4 1 rI T_M_cell [0] (fun q lv st h => match Nat.ble (pc + 1) q with
    | true => D_M_cell N n q lv st h
    | false => none) 400 true pc lv' st h = some r := by
  intro n pc lv st h hf
  unfold D_M_cell at hf
  split at hf
  · rename_i hb
    have hb := Nat.eq_of_beq_eq_true hb
    subst hb
    split at hf
    · rename_i e0
      exact ⟨_, (sub_cons e0 sub_nil), (E_M_cell_0 N n h).trans hf⟩
    · cases hf
  · skip
    cases hf
theorem hM_M_cell (N : Nat) {r : Int32 × MH} : ∀ n pc lv st h, D_M_cell N n pc lv st h = some r → pc < 75 := by
  intro n pc lv st h hf
  unfold D_M_cell at hf
  split at hf
  · rename_i hb
    rw [Nat.eq_of_beq_eq_true hb]
    decide
  · skip
    cases hf
theorem s_M_cell {l : Launch} {E : EV} {N : Nat} {as : List MV} {h : MH} {r : Int32 × MH} (hf : w_M_cell (f_M_cell N) as h = some r) : SndM l E false 6 194 as h (some (.inl r.1)) r.2 := by
  unfold w_M_cell at hf
  split at hf
  · obtain ⟨m1, m2, m3, m4⟩ := mx_M_cell
    refine snd_of (C := C_M_cell N) (own := 12) (rz := 1) (lim := 115) rI_eq m2 m4 pl_194 (TB_in _ cw_194 rfl) ⟨(fun _ => ⟨_, _, _, _, _, _, rfl, rfl, by rw [m4]; rfl⟩), (fun z => by rw [m3] at z; cases z)⟩ (fun z => by cases z) KDL_take rfl rfl (fun z => by cases z) (fun z => by cases z) (fun _ => rfl) (by rw [m1]; exact Nat.le_of_ble_eq_true rfl)
      (fun j as h x z => by
      dsimp only [C_M_cell] at z
      cases hb : Nat.beq j 186 with
      | true =>
        have hb := Nat.eq_of_beq_eq_true hb
        subst hb
        exact ⟨1, by decide, (fun z => by cases z), s_M_fails z⟩
      | false =>
        rw [hb] at z
        dsimp only at z
        cases hb : Nat.beq j 191 with
        | true =>
          have hb := Nat.eq_of_beq_eq_true hb
          subst hb
          exact ⟨0, by decide, (fun z => by cases z), s_M_sheetOf z⟩
        | false =>
          rw [hb] at z
          dsimp only at z
          cases hb : Nat.beq j 193 with
          | true =>
            have hb := Nat.eq_of_beq_eq_true hb
            subst hb
            exact ⟨2, by decide, (fun z => by cases z), s_M_number z⟩
          | false =>
            rw [hb] at z
            dsimp only at z
            cases z)
      (fun j as h x z => by
      dsimp only [C_M_cell] at z
      cases hb : Nat.beq j 190 with
      | true =>
        have hb := Nat.eq_of_beq_eq_true hb
        subst hb
        exact ⟨5, by decide, (fun z => by cases z), s_M_nameHere z⟩
      | false =>
        rw [hb] at z
        dsimp only at z
        cases z)
      (fun _ _ _ _ z => by cases z)
      (fun j as h x z => by
      dsimp only [C_M_cell] at z
      cases hb : Nat.beq j 183 with
      | true =>
        have hb := Nat.eq_of_beq_eq_true hb
        subst hb
        exact ⟨1, by decide, (fun z => by cases z), s_M_next z⟩
      | false =>
        rw [hb] at z
        dsimp only at z
        cases z)
      (fun p e R s m args below meth c Q n0 F hret => ?_)
    rw [m1] at F hret ⊢
    rw [mc_M_cell] at F hret
    exact cuts_s (K := 400) (M := 75) (D := D_M_cell N) (B := fun _ _ _ _ _ => none) F hret (chkT_ok chk_M_cell) (hM_M_cell N) (fun _ _ _ _ _ z => by cases z) (hD_M_cell N) N 0 _ _ _ hf
  · cases hf
def T_M_sheet : List (List (Option RW)) := [
  [some (.aload_n 0, 1, [0], 0, 0), some (.invokevirtual 263, 3, [0, 183, 1, 3], 0, 0), none, none, some (.aload_n 0, 1, [0], 0, 0), some (.invokevirtual 278, 3, [0, 190, 1, 1], 0, 0), none, none, some (.lstore_n 1, 1, [1], 0, 0), some (.lload_n 1, 1, [1], 0, 0), some (.ldc2_w 199, 3, [], 0, (-1)), none, none, some (.lcmp, 1, [], 0, 0), some (.ifCond .ne 9, 3, [23], 0, 0), none, none, some (.aload_n 0, 1, [0], 0, 0), some (.iconst 2, 1, [], 2, 0), some (.invokevirtual 260, 3, [0, 186, 2, 0], 0, 0), none, none, some (.ireturn, 1, [], 0, 0), some (.aload_n 0, 1, [0], 0, 0), some (.lload_n 1, 1, [1], 0, 0), some (.invokevirtual 282, 3, [0, 191, 2, 0], 0, 0), none, none, some (.iconst (-1), 1, [], (-1), 0), some (.if_icmp .ne 12, 3, [41], 0, 0), none, none],
  [some (.aload_n 0, 1, [0], 0, 0), some (.lload_n 1, 1, [1], 0, 0), some (.invokevirtual 289, 3, [0, 192, 2, 0], 0, 0), none, none, some (.iconst (-1), 1, [], (-1), 0), some (.if_icmp .eq 9, 3, [47], 0, 0), none, none, some (.aload_n 0, 1, [0], 0, 0), some (.iconst 3, 1, [], 3, 0), some (.invokevirtual 260, 3, [0, 186, 2, 0], 0, 0), none, none, some (.ireturn, 1, [], 0, 0), some (.aload_n 0, 1, [0], 0, 0), some (.invokevirtual 263, 3, [0, 183, 1, 3], 0, 0), none, none, some (.aload_n 0, 1, [0], 0, 0), some (.iconst 5, 1, [], 5, 0), some (.invokevirtual 292, 3, [0, 188, 2, 0], 0, 0), none, none, some (.ifCond .ne 5, 3, [61], 0, 0), none, none, some (.iconst 0, 1, [], 0, 0), some (.ireturn, 1, [], 0, 0), some (.aload_n 0, 1, [0], 0, 0), some (.getfield 223, 3, [12, 10, 0], 0, 0), none],
  [none, some (.iconst 3, 1, [], 3, 0), some (.if_icmp .ne 41, 3, [107], 0, 0), none, none, some (.aload_n 0, 1, [0], 0, 0), some (.getfield 220, 3, [12, 13, 0], 0, 0), none, none, some (.iconst 1, 1, [], 1, 0), some (.if_icmp .lt 33, 3, [107], 0, 0), none, none, some (.aload_n 0, 1, [0], 0, 0), some (.getfield 220, 3, [12, 13, 0], 0, 0), none, none, some (.bipush 6, 2, [], 6, 0), none, some (.if_icmp .gt 24, 3, [107], 0, 0), none, none, some (.aload_n 0, 1, [0], 0, 0), some (.getfield 295, 3, [12, 29, 0], 0, 0), none, none, some (.aload_n 0, 1, [0], 0, 0), some (.getfield 220, 3, [12, 13, 0], 0, 0), none, none, some (.iadd, 1, [], 0, 0), some (.bipush 6, 2, [], 6, 0)],
  [none, some (.if_icmp .le 10, 3, [107], 0, 0), none, none, some (.aload_n 0, 1, [0], 0, 0), some (.bipush 6, 2, [], 6, 0), none, some (.invokevirtual 260, 3, [0, 186, 2, 0], 0, 0), none, none, some (.ireturn, 1, [], 0, 0), some (.aload_n 0, 1, [0], 0, 0), some (.iconst 1, 1, [], 1, 0), some (.bipush 6, 2, [], 6, 0), none, some (.invokevirtual 286, 3, [0, 193, 3, 0], 0, 0), none, none, some (.ifCond .ne 5, 3, [119], 0, 0), none, none, some (.iconst 0, 1, [], 0, 0), some (.ireturn, 1, [], 0, 0), some (.aload_n 0, 1, [0], 0, 0), some (.getfield 275, 3, [12, 39, 0], 0, 0), none, none, some (.istore_n 3, 1, [3], 0, 0), some (.aload_n 0, 1, [0], 0, 0), some (.bipush 6, 2, [], 6, 0), none, some (.invokevirtual 292, 3, [0, 188, 2, 0], 0, 0)],
  [none, none, some (.ifCond .eq 14, 3, [144], 0, 0), none, none, some (.aload_n 0, 1, [0], 0, 0), some (.iconst 0, 1, [], 0, 0), some (.sipush 999, 3, [], 999, 0), none, none, some (.invokevirtual 286, 3, [0, 193, 3, 0], 0, 0), none, none, some (.ifCond .ne 5, 3, [146], 0, 0), none, none, some (.iconst 0, 1, [], 0, 0), some (.ireturn, 1, [], 0, 0), some (.aload_n 0, 1, [0], 0, 0), some (.invokevirtual 298, 3, [0, 189, 1, 0], 0, 0), none, none, some (.ifCond .ne 5, 3, [155], 0, 0), none, none, some (.iconst 0, 1, [], 0, 0), some (.ireturn, 1, [], 0, 0), some (.aload_n 0, 1, [0], 0, 0), some (.getfield 38, 3, [12, 17, 2, 2, 6, 6], 0, 0), none, none, some (.aload_n 0, 1, [0], 0, 0)],
  [some (.getfield 269, 3, [12, 28, 0], 0, 0), none, none, some (.lload_n 1, 1, [1], 0, 0), some (.lastore, 1, [], 0, 0), some (.aload_n 0, 1, [0], 0, 0), some (.getfield 44, 3, [12, 19, 2, 1, 6, 8], 0, 0), none, none, some (.aload_n 0, 1, [0], 0, 0), some (.getfield 269, 3, [12, 28, 0], 0, 0), none, none, some (.aload_n 0, 1, [0], 0, 0), some (.getfield 295, 3, [12, 29, 0], 0, 0), none, none, some (.iastore, 1, [], 0, 0), some (.aload_n 0, 1, [0], 0, 0), some (.getfield 47, 3, [12, 20, 2, 1, 6, 9], 0, 0), none, none, some (.aload_n 0, 1, [0], 0, 0), some (.getfield 269, 3, [12, 28, 0], 0, 0), none, none, some (.iload_n 3, 1, [3], 0, 0), some (.iastore, 1, [], 0, 0), some (.aload_n 0, 1, [0], 0, 0), some (.dup, 1, [], 0, 0), some (.getfield 269, 3, [12, 28, 0], 0, 0), none],
  [none, some (.iconst 1, 1, [], 1, 0), some (.iadd, 1, [], 0, 0), some (.putfield 269, 3, [12, 28, 0], 0, 0), none, none, some (.iconst 0, 1, [], 0, 0), some (.istore 4, 2, [4], 0, 0), none, some (.iload 4, 2, [4], 0, 0), none, some (.iload_n 3, 1, [3], 0, 0), some (.if_icmp .ge 64, 3, [268], 0, 0), none, none, some (.aload_n 0, 1, [0], 0, 0), some (.getfield 50, 3, [12, 21, 2, 1, 6, 10], 0, 0), none, none, some (.aload_n 0, 1, [0], 0, 0), some (.getfield 295, 3, [12, 29, 0], 0, 0), none, none, some (.aload_n 0, 1, [0], 0, 0), some (.getfield 275, 3, [12, 39, 0], 0, 0), none, none, some (.iastore, 1, [], 0, 0), some (.aload_n 0, 1, [0], 0, 0), some (.getfield 53, 3, [12, 22, 2, 1, 6, 11], 0, 0), none, none],
  [some (.aload_n 0, 1, [0], 0, 0), some (.getfield 295, 3, [12, 29, 0], 0, 0), none, none, some (.bipush 100, 2, [], 100, 0), none, some (.iastore, 1, [], 0, 0), some (.aload_n 0, 1, [0], 0, 0), some (.getfield 56, 3, [12, 23, 2, 1, 6, 12], 0, 0), none, none, some (.aload_n 0, 1, [0], 0, 0), some (.getfield 295, 3, [12, 29, 0], 0, 0), none, none, some (.bipush 100, 2, [], 100, 0), none, some (.iastore, 1, [], 0, 0), some (.aload_n 0, 1, [0], 0, 0), some (.getfield 66, 3, [12, 26, 2, 4, 6, 15], 0, 0), none, none, some (.aload_n 0, 1, [0], 0, 0), some (.getfield 295, 3, [12, 29, 0], 0, 0), none, none, some (.iconst 0, 1, [], 0, 0), some (.bastore, 1, [], 0, 0), some (.aload_n 0, 1, [0], 0, 0), some (.dup, 1, [], 0, 0), some (.getfield 295, 3, [12, 29, 0], 0, 0), none],
  [none, some (.iconst 1, 1, [], 1, 0), some (.iadd, 1, [], 0, 0), some (.putfield 295, 3, [12, 29, 0], 0, 0), none, none, some (.iinc 4 1, 3, [4], 1, 0), none, none, some (.goto (-64), 3, [201], 0, 0), none, none, some (.iconst 1, 1, [], 1, 0), some (.ireturn, 1, [], 0, 0)]]
def F_M_sheet_201 (N : Nat) (bk : (Int32 → Int32 → MH → Option (Int32 × MH))) (a3 : Int32) (a4 : Int32) (h : MH) : Option (Int32 × MH) :=
  if a3 ≤ a4 then
  (some (1, h))
  else
  (if inB (gI h 68 29) 6 = true then
  (let h20 : MH := sI h 78 (iN (gI h 68 29)) (gI h 68 39)
  if inB (gI h20 68 29) 6 = true then
  (let h21 : MH := sI h20 79 (iN (gI h20 68 29)) 100
  if inB (gI h21 68 29) 6 = true then
  (let h22 : MH := sI h21 80 (iN (gI h21 68 29)) 100
  if inB (gI h22 68 29) 6 = true then
  (let h23 : MH := sI h22 83 (iN (gI h22 68 29)) ((0 : Int32) &&& 1)
  let h24 : MH := sI h23 68 29 ((gI h23 68 29) + 1)
  let v25 : Int32 := a4 + 1
  bk a3 v25 h24)
  else none)
  else none)
  else none)
  else none)
def F_M_sheet_107 (N : Nat) (bk : (Int32 → Int32 → MH → Option (Int32 × MH))) (a1 : Int64) (h : MH) : Option (Int32 × MH) :=
  (f_M_number N 1 6 h).bind (fun x11 =>
  if x11.1 = 0 then
  (some (0, x11.2))
  else
  (let v12 : Int32 := gI x11.2 68 39
  (f_M_wantKey N 6 x11.2).bind (fun x13 =>
  if x13.1 = 0 then
  (some (0, x13.2))
  else
  ((f_M_number N 0 999 x13.2).bind (fun x14 =>
  if x14.1 = 0 then
  (some (0, x14.2))
  else
  ((f_M_wantEnd N x14.2).bind (fun x15 =>
  if x15.1 = 0 then
  (some (0, x15.2))
  else
  (if inB (gI x15.2 68 28) 6 = true then
  (let h16 : MH := sJ x15.2 74 (iN (gI x15.2 68 28)) a1
  if inB (gI h16 68 28) 6 = true then
  (let h17 : MH := sI h16 76 (iN (gI h16 68 28)) (gI h16 68 29)
  if inB (gI h17 68 28) 6 = true then
  (let h18 : MH := sI h17 77 (iN (gI h17 68 28)) v12
  let h19 : MH := sI h18 68 28 ((gI h18 68 28) + 1)
  F_M_sheet_201 N bk v12 0 h19)
  else none)
  else none)
  else none))))))))
def F_M_sheet_0 (N : Nat) (bk : (Int32 → Int32 → MH → Option (Int32 × MH))) (h : MH) : Option (Int32 × MH) :=
  (f_M_next N h).bind (fun x1 =>
  (f_M_nameHere N x1).bind (fun x2 =>
  if (lg_cmp x2.1 ((-1))) = 0 then
  ((f_M_fails N 2 x2.2).bind (fun x3 =>
  match narOK 1 x3.1 with
  | true => some (x3.1, x3.2)
  | false => none))
  else
  ((f_M_sheetOf N x2.1 x2.2).bind (fun x4 =>
  if x4.1 = ((-1)) then
  ((f_M_markOf N x2.1 x4.2).bind (fun x5 =>
  if x5.1 = ((-1)) then
  ((f_M_next N x5.2).bind (fun x6 =>
  (f_M_wantKey N 5 x6).bind (fun x7 =>
  if x7.1 = 0 then
  (some (0, x7.2))
  else
  (if (gI x7.2 68 10) = 3 then
  (if (gI x7.2 68 13) < 1 then
  (F_M_sheet_107 N bk x2.1 x7.2)
  else
  (if 6 < (gI x7.2 68 13) then
  (F_M_sheet_107 N bk x2.1 x7.2)
  else
  (if ((gI x7.2 68 29) + (gI x7.2 68 13)) ≤ 6 then
  (F_M_sheet_107 N bk x2.1 x7.2)
  else
  ((f_M_fails N 6 x7.2).bind (fun x8 =>
  match narOK 1 x8.1 with
  | true => some (x8.1, x8.2)
  | false => none)))))
  else
  (F_M_sheet_107 N bk x2.1 x7.2)))))
  else
  ((f_M_fails N 3 x5.2).bind (fun x9 =>
  match narOK 1 x9.1 with
  | true => some (x9.1, x9.2)
  | false => none))))
  else
  ((f_M_fails N 3 x4.2).bind (fun x10 =>
  match narOK 1 x10.1 with
  | true => some (x10.1, x10.2)
  | false => none))))))
def L_M_sheet (N : Nat) : Nat → (Int32 → Int32 → MH → Option (Int32 × MH))
  | 0 => fun _ _ _ => none
  | n + 1 => F_M_sheet_201 N (L_M_sheet N n)
def f_M_sheet (N : Nat) (h : MH) : Option (Int32 × MH) := F_M_sheet_0 N (L_M_sheet N N) h
def C_M_sheet (N : Nat) : MC := (KDL, false, (fun _ => 0), jsB, (fun j => match Nat.beq j 186 with
    | true => w_M_fails (f_M_fails N)
    | false => match Nat.beq j 188 with
    | true => w_M_wantKey (f_M_wantKey N)
    | false => match Nat.beq j 189 with
    | true => w_M_wantEnd (f_M_wantEnd N)
    | false => match Nat.beq j 191 with
    | true => w_M_sheetOf (f_M_sheetOf N)
    | false => match Nat.beq j 192 with
    | true => w_M_markOf (f_M_markOf N)
    | false => match Nat.beq j 193 with
    | true => w_M_number (f_M_number N)
    | false => fun _ _ => none), (fun j => match Nat.beq j 190 with
    | true => w_M_nameHere (f_M_nameHere N)
    | false => fun _ _ => none), (fun _ _ _ => none), (fun j => match Nat.beq j 183 with
    | true => w_M_next (f_M_next N)
    | false => fun _ _ => none))
def D_M_sheet (N : Nat) (n pc : Nat) (lv : ML) (st : List MV) (h : MH) : Option (Int32 × MH) :=
  match Nat.beq pc 0 with
  | true => (match lk lv 0, st with
    | some (.inr (.inr (0, 12, 68))), [] => F_M_sheet_0 N (L_M_sheet N n) h
    | _, _ => none)
  | false => match Nat.beq pc 107 with
  | true => (match lk lv 0, lk lv 1, st with
    | some (.inr (.inr (0, 12, 68))), some (.inr (.inl a1)), [] => F_M_sheet_107 N (L_M_sheet N n) a1 h
    | _, _, _ => none)
  | false => match Nat.beq pc 201 with
  | true => (match lk lv 0, lk lv 3, lk lv 4, st with
    | some (.inr (.inr (0, 12, 68))), some (.inl a3), some (.inl a4), [] => F_M_sheet_201 N (L_M_sheet N n) a3 a4 h
    | _, _, _, _ => none)
  | false => none
def B_M_sheet (N : Nat) (n pc : Nat) (lv : ML) (st : List MV) (h : MH) : Option (Int32 × MH) :=
  match Nat.beq pc 201 with
  | true => (match lk lv 0, lk lv 3, lk lv 4, st with
    | some (.inr (.inr (0, 12, 68))), some (.inl a3), some (.inl a4), [] => ((L_M_sheet N n)) a3 a4 h
    | _, _, _, _ => none)
  | false => none
set_option maxRecDepth 1000000 in
theorem E_M_sheet_0 (N : Nat) (n : Nat) (h : MH) : seg (C_M_sheet N) 5 1 rI T_M_sheet [0, 107, 201] (fun q lv st h => match Nat.ble 1 q with
    | true => D_M_sheet N n q lv st h
    | false => B_M_sheet N n q lv st h) 400 true 0 [(0, .inr (.inr (0, 12, 68)))] [] h = F_M_sheet_0 N (L_M_sheet N n) h := (rfl)
set_option maxRecDepth 1000000 in
theorem E_M_sheet_107 (N : Nat) (n : Nat) (a1 : Int64) (h : MH) : seg (C_M_sheet N) 5 1 rI T_M_sheet [0, 107, 201] (fun q lv st h => match Nat.ble 108 q with
    | true => D_M_sheet N n q lv st h
    | false => B_M_sheet N n q lv st h) 400 true 107 [(0, .inr (.inr (0, 12, 68))), (1, .inr (.inl a1))] [] h = F_M_sheet_107 N (L_M_sheet N n) a1 h := (rfl)
set_option maxRecDepth 1000000 in
theorem E_M_sheet_201 (N : Nat) (n : Nat) (a3 : Int32) (a4 : Int32) (h : MH) : seg (C_M_sheet N) 5 1 rI T_M_sheet [0, 107, 201] (fun q lv st h => match Nat.ble 202 q with
    | true => D_M_sheet N n q lv st h
    | false => B_M_sheet N n q lv st h) 400 true 201 [(0, .inr (.inr (0, 12, 68))), (3, .inl a3), (4, .inl a4)] [] h = F_M_sheet_201 N (L_M_sheet N n) a3 a4 h := (rfl)
set_option maxRecDepth 1000000 in
theorem chk_M_sheet : chkT 12 false prog_14_method_33_code T_M_sheet = true := by decide +kernel
theorem mc_M_sheet : mC 195 = prog_14_method_33_code := by rfl
theorem mx_M_sheet : mL 195 = 5 ∧ mR 195 = some .boolean ∧ mK 195 = 1 ∧ (mN 195).cls = cN 12 := by decide +kernel
theorem hD_M_sheet (N : Nat) {r : Int32 × MH} : ∀ n pc lv st h, D_M_sheet N n pc lv st h = some r → ∃ lv', (∀ q ∈ lv', q ∈ lv) ∧ seg (C_M_sheet N) 5 1 rI T_M_sheet [0, 107, 201] (fun q lv st h => match Nat.ble (pc + 1) q with
    | true => D_M_sheet N n q lv st h
    | false => B_M_sheet N n q lv st h) 400 true pc lv' st h = some r := by
  intro n pc lv st h hf
  unfold D_M_sheet at hf
  split at hf
  · rename_i hb
    have hb := Nat.eq_of_beq_eq_true hb
    subst hb
    split at hf
    · rename_i e0
      exact ⟨_, (sub_cons e0 sub_nil), (E_M_sheet_0 N n h).trans hf⟩
    · cases hf
  · skip
    split at hf
    · rename_i hb
      have hb := Nat.eq_of_beq_eq_true hb
      subst hb
      split at hf
      · rename_i y0 e0 e1
        exact ⟨_, (sub_cons e0 (sub_cons e1 sub_nil)), (E_M_sheet_107 N n _ h).trans hf⟩
      · cases hf
    · skip
      split at hf
      · rename_i hb
        have hb := Nat.eq_of_beq_eq_true hb
        subst hb
        split at hf
        · rename_i y0 y1 e0 e1 e2
          exact ⟨_, (sub_cons e0 (sub_cons e1 (sub_cons e2 sub_nil))), (E_M_sheet_201 N n _ _ h).trans hf⟩
        · cases hf
      · skip
        cases hf
theorem hM_M_sheet (N : Nat) {r : Int32 × MH} : ∀ n pc lv st h, D_M_sheet N n pc lv st h = some r → pc < 270 := by
  intro n pc lv st h hf
  unfold D_M_sheet at hf
  split at hf
  · rename_i hb
    rw [Nat.eq_of_beq_eq_true hb]
    decide
  · skip
    split at hf
    · rename_i hb
      rw [Nat.eq_of_beq_eq_true hb]
      decide
    · skip
      split at hf
      · rename_i hb
        rw [Nat.eq_of_beq_eq_true hb]
        decide
      · skip
        cases hf
theorem hB_M_sheet (N : Nat) {r : Int32 × MH} : ∀ n pc lv st h, B_M_sheet N n pc lv st h = some r → ∃ k, n = k + 1 ∧ D_M_sheet N k pc lv st h = some r := by
  intro n pc lv st h hf
  unfold B_M_sheet at hf
  split at hf
  · rename_i hb
    have hb := Nat.eq_of_beq_eq_true hb
    subst hb
    cases n with
    | zero =>
      split at hf
      · cases hf
      · cases hf
    | succ k =>
      refine ⟨k, rfl, ?_⟩
      exact hf
  · skip
    cases hf
theorem s_M_sheet {l : Launch} {E : EV} {N : Nat} {as : List MV} {h : MH} {r : Int32 × MH} (hf : w_M_sheet (f_M_sheet N) as h = some r) : SndM l E false 6 195 as h (some (.inl r.1)) r.2 := by
  unfold w_M_sheet at hf
  split at hf
  · obtain ⟨m1, m2, m3, m4⟩ := mx_M_sheet
    refine snd_of (C := C_M_sheet N) (own := 12) (rz := 1) (lim := 115) rI_eq m2 m4 pl_195 (TB_in _ cw_195 rfl) ⟨(fun _ => ⟨_, _, _, _, _, _, rfl, rfl, by rw [m4]; rfl⟩), (fun z => by rw [m3] at z; cases z)⟩ (fun z => by cases z) KDL_take rfl rfl (fun z => by cases z) (fun z => by cases z) (fun _ => rfl) (by rw [m1]; exact Nat.le_of_ble_eq_true rfl)
      (fun j as h x z => by
      dsimp only [C_M_sheet] at z
      cases hb : Nat.beq j 186 with
      | true =>
        have hb := Nat.eq_of_beq_eq_true hb
        subst hb
        exact ⟨1, by decide, (fun z => by cases z), s_M_fails z⟩
      | false =>
        rw [hb] at z
        dsimp only at z
        cases hb : Nat.beq j 188 with
        | true =>
          have hb := Nat.eq_of_beq_eq_true hb
          subst hb
          exact ⟨5, by decide, (fun z => by cases z), s_M_wantKey z⟩
        | false =>
          rw [hb] at z
          dsimp only at z
          cases hb : Nat.beq j 189 with
          | true =>
            have hb := Nat.eq_of_beq_eq_true hb
            subst hb
            exact ⟨2, by decide, (fun z => by cases z), s_M_wantEnd z⟩
          | false =>
            rw [hb] at z
            dsimp only at z
            cases hb : Nat.beq j 191 with
            | true =>
              have hb := Nat.eq_of_beq_eq_true hb
              subst hb
              exact ⟨0, by decide, (fun z => by cases z), s_M_sheetOf z⟩
            | false =>
              rw [hb] at z
              dsimp only at z
              cases hb : Nat.beq j 192 with
              | true =>
                have hb := Nat.eq_of_beq_eq_true hb
                subst hb
                exact ⟨0, by decide, (fun z => by cases z), s_M_markOf z⟩
              | false =>
                rw [hb] at z
                dsimp only at z
                cases hb : Nat.beq j 193 with
                | true =>
                  have hb := Nat.eq_of_beq_eq_true hb
                  subst hb
                  exact ⟨2, by decide, (fun z => by cases z), s_M_number z⟩
                | false =>
                  rw [hb] at z
                  dsimp only at z
                  cases z)
      (fun j as h x z => by
      dsimp only [C_M_sheet] at z
      cases hb : Nat.beq j 190 with
      | true =>
        have hb := Nat.eq_of_beq_eq_true hb
        subst hb
        exact ⟨5, by decide, (fun z => by cases z), s_M_nameHere z⟩
      | false =>
        rw [hb] at z
        dsimp only at z
        cases z)
      (fun _ _ _ _ z => by cases z)
      (fun j as h x z => by
      dsimp only [C_M_sheet] at z
      cases hb : Nat.beq j 183 with
      | true =>
        have hb := Nat.eq_of_beq_eq_true hb
        subst hb
        exact ⟨1, by decide, (fun z => by cases z), s_M_next z⟩
      | false =>
        rw [hb] at z
        dsimp only at z
        cases z)
      (fun p e R s m args below meth c Q n0 F hret => ?_)
    rw [m1] at F hret ⊢
    rw [mc_M_sheet] at F hret
    exact cuts_s (K := 400) (M := 270) (D := D_M_sheet N) (B := B_M_sheet N) F hret (chkT_ok chk_M_sheet) (hM_M_sheet N) (hB_M_sheet N) (hD_M_sheet N) N 0 _ _ _ hf
  · cases hf
