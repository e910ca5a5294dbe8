def T_Walk_findQuarrel : List (List (Option RW)) := [
  [some (.aload_n 0, 1, [0], 0, 0), some (.iload_n 2, 1, [2], 0, 0), some (.putfield 9, 3, [10, 0, 0], 0, 0), none, none, some (.iconst 0, 1, [], 0, 0), some (.istore_n 3, 1, [3], 0, 0), some (.iload_n 3, 1, [3], 0, 0), some (.sipush 256, 3, [], 256, 0), none, none, some (.if_icmp .ge 16, 3, [27], 0, 0), none, none, some (.aload_n 0, 1, [0], 0, 0), some (.getfield 50, 3, [10, 12, 2, 4, 256, 5], 0, 0), none, none, some (.iload_n 3, 1, [3], 0, 0), some (.iconst 0, 1, [], 0, 0), some (.bastore, 1, [], 0, 0), some (.iinc 3 1, 3, [3], 1, 0), none, none, some (.goto (-17), 3, [7], 0, 0), none, none, some (.aload_n 0, 1, [0], 0, 0), some (.aload_n 1, 1, [1], 0, 0), some (.iconst 0, 1, [], 0, 0), some (.aload_n 1, 1, [1], 0, 0), some (.getfield 67, 3, [0, 2, 0], 0, 0)],
  [none, none, some (.invokevirtual 175, 3, [0, 106, 4, 3], 0, 0), none, none, some (.aload_n 0, 1, [0], 0, 0), some (.bipush 9, 2, [], 9, 0), none, some (.putfield 54, 3, [10, 13, 0], 0, 0), none, none, some (.aload_n 0, 1, [0], 0, 0), some (.iconst 0, 1, [], 0, 0), some (.putfield 60, 3, [10, 15, 0], 0, 0), none, none, some (.iconst 0, 1, [], 0, 0), some (.istore_n 3, 1, [3], 0, 0), some (.iload_n 3, 1, [3], 0, 0), some (.sipush 256, 3, [], 256, 0), none, none, some (.if_icmp .ge 34, 3, [88], 0, 0), none, none, some (.iload_n 3, 1, [3], 0, 0), some (.aload_n 1, 1, [1], 0, 0), some (.getfield 67, 3, [0, 2, 0], 0, 0), none, none, some (.iconst (-1), 1, [], (-1), 0), some (.ixor, 1, [], 0, 0)],
  [some (.iand, 1, [], 0, 0), some (.ifCond .ne 17, 3, [82], 0, 0), none, none, some (.aload_n 0, 1, [0], 0, 0), some (.getfield 50, 3, [10, 12, 2, 4, 256, 5], 0, 0), none, none, some (.iload_n 3, 1, [3], 0, 0), some (.baload, 1, [], 0, 0), some (.ifCond .ne 8, 3, [82], 0, 0), none, none, some (.aload_n 0, 1, [0], 0, 0), some (.iload_n 3, 1, [3], 0, 0), some (.invokevirtual 178, 3, [0, 105, 2, 3], 0, 0), none, none, some (.iinc 3 1, 3, [3], 1, 0), none, none, some (.goto (-35), 3, [50], 0, 0), none, none, some (.return_, 1, [], 0, 0)]]
def F_Walk_findQuarrel_50 (N : Nat) (bk : (Int32 → MH → Option (MH)) × (Int32 → MH → Option (MH))) (a3 : Int32) (h : MH) : Option (MH) :=
  if 256 ≤ a3 then
  (some h)
  else
  (if (a3 &&& ((gI h 33 2) ^^^ ((-1)))) = 0 then
  (if inB a3 256 = true then
  (if (gI h 47 (iN a3)) = 0 then
  ((f_Walk_noteUnmet N a3 h).bind (fun x7 =>
  let v8 : Int32 := a3 + 1
  (bk.2) v8 x7))
  else
  (let v9 : Int32 := a3 + 1
  (bk.2) v9 h))
  else none)
  else
  (let v10 : Int32 := a3 + 1
  (bk.2) v10 h))
def F_Walk_findQuarrel_7 (N : Nat) (bk : (Int32 → MH → Option (MH)) × (Int32 → MH → Option (MH))) (a3 : Int32) (h : MH) : Option (MH) :=
  if 256 ≤ a3 then
  ((f_Walk_visitSets N 8 0 (gI h 33 2) h).bind (fun x2 =>
  let h3 : MH := sI x2 42 13 9
  let h4 : MH := sI h3 42 15 0
  F_Walk_findQuarrel_50 N bk 0 h4))
  else
  (if inB a3 256 = true then
  (let h5 : MH := sI h 47 (iN a3) ((0 : Int32) &&& 1)
  let v6 : Int32 := a3 + 1
  (bk.1) v6 h5)
  else none)
def F_Walk_findQuarrel_0 (N : Nat) (bk : (Int32 → MH → Option (MH)) × (Int32 → MH → Option (MH))) (a2 : Int32) (h : MH) : Option (MH) :=
  let h1 : MH := sI h 42 0 a2
  F_Walk_findQuarrel_7 N bk 0 h1
def L_Walk_findQuarrel (N : Nat) : Nat → ((Int32 → MH → Option (MH)) × (Int32 → MH → Option (MH)))
  | 0 => (fun _ _ => none, fun _ _ => none)
  | n + 1 => (F_Walk_findQuarrel_7 N (L_Walk_findQuarrel N n), F_Walk_findQuarrel_50 N (L_Walk_findQuarrel N n))
def f_Walk_findQuarrel (N : Nat) (a2 : Int32) (h : MH) : Option (MH) := F_Walk_findQuarrel_0 N (L_Walk_findQuarrel N N) a2 h
def C_Walk_findQuarrel (N : Nat) : MC := (KDL, false, (fun _ => 0), jsB, (fun _ _ _ => none), (fun _ _ _ => none), (fun _ _ _ => none), (fun j => match Nat.beq j 105 with
    | true => w_Walk_noteUnmet (f_Walk_noteUnmet N)
    | false => match Nat.beq j 106 with
    | true => w_Walk_visitSets (f_Walk_visitSets N 8)
    | false => fun _ _ => none))
def D_Walk_findQuarrel (N : Nat) (n pc : Nat) (lv : ML) (st : List MV) (h : MH) : Option (MH) :=
  match Nat.beq pc 0 with
  | true => (match lk lv 0, lk lv 1, lk lv 2, st with
    | some (.inr (.inr (0, 10, 42))), some (.inr (.inr (0, 0, 33))), some (.inl a2), [] => F_Walk_findQuarrel_0 N (L_Walk_findQuarrel N n) a2 h
    | _, _, _, _ => none)
  | false => match Nat.beq pc 7 with
  | true => (match lk lv 0, lk lv 1, lk lv 3, st with
    | some (.inr (.inr (0, 10, 42))), some (.inr (.inr (0, 0, 33))), some (.inl a3), [] => F_Walk_findQuarrel_7 N (L_Walk_findQuarrel N n) a3 h
    | _, _, _, _ => none)
  | false => match Nat.beq pc 50 with
  | true => (match lk lv 0, lk lv 1, lk lv 3, st with
    | some (.inr (.inr (0, 10, 42))), some (.inr (.inr (0, 0, 33))), some (.inl a3), [] => F_Walk_findQuarrel_50 N (L_Walk_findQuarrel N n) a3 h
    | _, _, _, _ => none)
  | false => none
def B_Walk_findQuarrel (N : Nat) (n pc : Nat) (lv : ML) (st : List MV) (h : MH) : Option (MH) :=
  match Nat.beq pc 7 with
  | true => (match lk lv 0, lk lv 1, lk lv 3, st with
    | some (.inr (.inr (0, 10, 42))), some (.inr (.inr (0, 0, 33))), some (.inl a3), [] => ((L_Walk_findQuarrel N n).1) a3 h
    | _, _, _, _ => none)
  | false => match Nat.beq pc 50 with
  | true => (match lk lv 0, lk lv 1, lk lv 3, st with
    | some (.inr (.inr (0, 10, 42))), some (.inr (.inr (0, 0, 33))), some (.inl a3), [] => ((L_Walk_findQuarrel N n).2) a3 h
    | _, _, _, _ => none)
  | false => none
set_option maxRecDepth 1000000 in
theorem E_Walk_findQuarrel_0 (N : Nat) (n : Nat) (a2 : Int32) (h : MH) : seg (C_Walk_findQuarrel N) 4 0 rV T_Walk_findQuarrel [0, 7, 50] (fun q lv st h => match Nat.ble 1 q with
    | true => D_Walk_findQuarrel N n q lv st h
    | false => B_Walk_findQuarrel N n q lv st h) 400 true 0 [(0, .inr (.inr (0, 10, 42))), (1, .inr (.inr (0, 0, 33))), (2, .inl a2)] [] h = F_Walk_findQuarrel_0 N (L_Walk_findQuarrel N n) a2 h := (rfl)
set_option maxRecDepth 1000000 in
theorem E_Walk_findQuarrel_7 (N : Nat) (n : Nat) (a3 : Int32) (h : MH) : seg (C_Walk_findQuarrel N) 4 0 rV T_Walk_findQuarrel [0, 7, 50] (fun q lv st h => match Nat.ble 8 q with
    | true => D_Walk_findQuarrel N n q lv st h
    | false => B_Walk_findQuarrel N n q lv st h) 400 true 7 [(0, .inr (.inr (0, 10, 42))), (1, .inr (.inr (0, 0, 33))), (3, .inl a3)] [] h = F_Walk_findQuarrel_7 N (L_Walk_findQuarrel N n) a3 h := (rfl)
set_option maxRecDepth 1000000 in
theorem E_Walk_findQuarrel_50 (N : Nat) (n : Nat) (a3 : Int32) (h : MH) : seg (C_Walk_findQuarrel N) 4 0 rV T_Walk_findQuarrel [0, 7, 50] (fun q lv st h => match Nat.ble 51 q with
    | true => D_Walk_findQuarrel N n q lv st h
    | false => B_Walk_findQuarrel N n q lv st h) 400 true 50 [(0, .inr (.inr (0, 10, 42))), (1, .inr (.inr (0, 0, 33))), (3, .inl a3)] [] h = F_Walk_findQuarrel_50 N (L_Walk_findQuarrel N n) a3 h := (rfl)
set_option maxRecDepth 1000000 in
theorem chk_Walk_findQuarrel : chkT 10 false prog_12_method_14_code T_Walk_findQuarrel = true := by decide +kernel
theorem mc_Walk_findQuarrel : mC 104 = prog_12_method_14_code := by rfl
theorem mx_Walk_findQuarrel : mL 104 = 4 ∧ mR 104 = none ∧ mK 104 = 1 ∧ (mN 104).cls = cN 10 := by decide +kernel
theorem hD_Walk_findQuarrel (N : Nat) {r : MH} : ∀ n pc lv st h, D_Walk_findQuarrel N n pc lv st h = some r → ∃ lv', (∀ q ∈ lv', q ∈ lv) ∧ seg (C_Walk_findQuarrel N) 4 0 rV T_Walk_findQuarrel [0, 7, 50] (fun q lv st h => match Nat.ble (pc + 1) q with
    | true => D_Walk_findQuarrel N n q lv st h
    | false => B_Walk_findQuarrel N n q lv st h) 400 true pc lv' st h = some r := by
  intro n pc lv st h hf
  unfold D_Walk_findQuarrel at hf
  split at hf
  · rename_i hb
    have hb := Nat.eq_of_beq_eq_true hb
    subst hb
    split at hf
    · rename_i y0 e0 e1 e2
      exact ⟨_, (sub_cons e0 (sub_cons e1 (sub_cons e2 sub_nil))), (E_Walk_findQuarrel_0 N n _ h).trans hf⟩
    · cases hf
  · skip
    split at hf
    · rename_i hb
      have hb := Nat.eq_of_beq_eq_true hb
      subst hb
      split at hf
      · rename_i y0 e0 e1 e2
        exact ⟨_, (sub_cons e0 (sub_cons e1 (sub_cons e2 sub_nil))), (E_Walk_findQuarrel_7 N n _ h).trans hf⟩
      · cases hf
    · skip
      split at hf
      · rename_i hb
        have hb := Nat.eq_of_beq_eq_true hb
        subst hb
        split at hf
        · rename_i y0 e0 e1 e2
          exact ⟨_, (sub_cons e0 (sub_cons e1 (sub_cons e2 sub_nil))), (E_Walk_findQuarrel_50 N n _ h).trans hf⟩
        · cases hf
      · skip
        cases hf
theorem hM_Walk_findQuarrel (N : Nat) {r : MH} : ∀ n pc lv st h, D_Walk_findQuarrel N n pc lv st h = some r → pc < 89 := by
  intro n pc lv st h hf
  unfold D_Walk_findQuarrel at hf
  split at hf
  · rename_i hb
    rw [Nat.eq_of_beq_eq_true hb]
    decide
  · skip
    split at hf
    · rename_i hb
      rw [Nat.eq_of_beq_eq_true hb]
      decide
    · skip
      split at hf
      · rename_i hb
        rw [Nat.eq_of_beq_eq_true hb]
        decide
      · skip
        cases hf
theorem hB_Walk_findQuarrel (N : Nat) {r : MH} : ∀ n pc lv st h, B_Walk_findQuarrel N n pc lv st h = some r → ∃ k, n = k + 1 ∧ D_Walk_findQuarrel N k pc lv st h = some r := by
  intro n pc lv st h hf
  unfold B_Walk_findQuarrel at hf
  split at hf
  · rename_i hb
    have hb := Nat.eq_of_beq_eq_true hb
    subst hb
    cases n with
    | zero =>
      split at hf
      · cases hf
      · cases hf
    | succ k =>
      refine ⟨k, rfl, ?_⟩
      exact hf
  · skip
    split at hf
    · rename_i hb
      have hb := Nat.eq_of_beq_eq_true hb
      subst hb
      cases n with
      | zero =>
        split at hf
        · cases hf
        · cases hf
      | succ k =>
        refine ⟨k, rfl, ?_⟩
        exact hf
    · skip
      cases hf
theorem s_Walk_findQuarrel {l : Launch} {E : EV} {N : Nat} {as : List MV} {h : MH} {r : MH} (hf : w_Walk_findQuarrel (f_Walk_findQuarrel N) as h = some r) : SndM l E false 11 104 as h none r := by
  unfold w_Walk_findQuarrel at hf
  split at hf
  · obtain ⟨m1, m2, m3, m4⟩ := mx_Walk_findQuarrel
    refine snd_of (C := C_Walk_findQuarrel N) (own := 10) (rz := 0) (lim := 115) rV_eq m2 m4 pl_104 (TB_in _ cw_104 rfl) ⟨(fun _ => ⟨_, _, _, _, _, _, rfl, rfl, by rw [m4]; rfl⟩), (fun z => by rw [m3] at z; cases z)⟩ (fun z => by cases z) KDL_take rfl rfl (fun z => by cases z) (fun z => by cases z) (fun _ => rfl) (by rw [m1]; exact Nat.le_of_ble_eq_true rfl)
      (fun _ _ _ _ z => by cases z)
      (fun _ _ _ _ z => by cases z)
      (fun _ _ _ _ z => by cases z)
      (fun j as h x z => by
      dsimp only [C_Walk_findQuarrel] at z
      cases hb : Nat.beq j 105 with
      | true =>
        have hb := Nat.eq_of_beq_eq_true hb
        subst hb
        exact ⟨1, by decide, (fun z => by cases z), s_Walk_noteUnmet z⟩
      | false =>
        rw [hb] at z
        dsimp only at z
        cases hb : Nat.beq j 106 with
        | true =>
          have hb := Nat.eq_of_beq_eq_true hb
          subst hb
          exact ⟨10, by decide, (fun z => by cases z), s_Walk_visitSets 8 z⟩
        | false =>
          rw [hb] at z
          dsimp only at z
          cases z)
      (fun p e R s m args below meth c Q n0 F hret => ?_)
    rw [m1] at F hret ⊢
    rw [mc_Walk_findQuarrel] at F hret
    exact cuts_s (K := 400) (M := 89) (D := D_Walk_findQuarrel N) (B := B_Walk_findQuarrel N) F hret (chkT_ok chk_Walk_findQuarrel) (hM_Walk_findQuarrel N) (hB_Walk_findQuarrel N) (hD_Walk_findQuarrel N) N 0 _ _ _ hf
  · cases hf
def T_S_status : List (List (Option RW)) := [
  [some (.aload_n 0, 1, [0], 0, 0), some (.getfield 85, 3, [11, 12, 0], 0, 0), none, none, some (.ireturn, 1, [], 0, 0)]]
def f_S_status (N : Nat) (h : MH) : Option (Int32 × MH) :=
  some (gI h 1 12, h)
def C_S_status (N : Nat) : MC := (KDL, false, (fun _ => 0), jsB, (fun _ _ _ => none), (fun _ _ _ => none), (fun _ _ _ => none), (fun _ _ _ => none))
def D_S_status (N : Nat) (n pc : Nat) (lv : ML) (st : List MV) (h : MH) : Option (Int32 × MH) :=
  match Nat.beq pc 0 with
  | true => (match lk lv 0, st with
    | some (.inr (.inr (0, 11, 1))), [] => f_S_status N h
    | _, _ => none)
  | false => none
set_option maxRecDepth 1000000 in
theorem E_S_status_0 (N : Nat) (n : Nat) (h : MH) : seg (C_S_status N) 1 0 rI T_S_status [0] (fun q lv st h => match Nat.ble 1 q with
    | true => D_S_status N n q lv st h
    | false => none) 400 true 0 [(0, .inr (.inr (0, 11, 1)))] [] h = f_S_status N h := (rfl)
set_option maxRecDepth 1000000 in
theorem chk_S_status : chkT 11 false prog_1_method_2_code T_S_status = true := by decide +kernel
theorem mc_S_status : mC 109 = prog_1_method_2_code := by rfl
theorem mx_S_status : mL 109 = 1 ∧ mR 109 = some .int ∧ mK 109 = 1 ∧ (mN 109).cls = cN 11 := by decide +kernel
theorem hD_S_status (N : Nat) {r : Int32 × MH} : ∀ n pc lv st h, D_S_status N n pc lv st h = some r → ∃ lv', (∀ q ∈ lv', q ∈ lv) ∧ seg (C_S_status N) 1 0 rI T_S_status [0] (fun q lv st h => match Nat.ble (pc + 1) q with
    | true => D_S_status N n q lv st h
    | false => none) 400 true pc lv' st h = some r := by
  intro n pc lv st h hf
  unfold D_S_status at hf
  split at hf
  · rename_i hb
    have hb := Nat.eq_of_beq_eq_true hb
    subst hb
    split at hf
    · rename_i e0
      exact ⟨_, (sub_cons e0 sub_nil), (E_S_status_0 N n h).trans hf⟩
    · cases hf
  · skip
    cases hf
theorem hM_S_status (N : Nat) {r : Int32 × MH} : ∀ n pc lv st h, D_S_status N n pc lv st h = some r → pc < 5 := by
  intro n pc lv st h hf
  unfold D_S_status at hf
  split at hf
  · rename_i hb
    rw [Nat.eq_of_beq_eq_true hb]
    decide
  · skip
    cases hf
theorem s_S_status {l : Launch} {E : EV} {N : Nat} {as : List MV} {h : MH} {r : Int32 × MH} (hf : w_S_status (f_S_status N) as h = some r) : SndM l E false 0 109 as h (some (.inl r.1)) r.2 := by
  unfold w_S_status at hf
  split at hf
  · obtain ⟨m1, m2, m3, m4⟩ := mx_S_status
    refine snd_of (C := C_S_status N) (own := 11) (rz := 0) (lim := 115) rI_eq m2 m4 pl_109 (TB_in _ cw_109 rfl) ⟨(fun _ => ⟨_, _, _, _, _, _, rfl, rfl, by rw [m4]; rfl⟩), (fun z => by rw [m3] at z; cases z)⟩ (fun z => by cases z) KDL_take rfl rfl (fun z => by cases z) (fun z => by cases z) (fun _ => rfl) (by rw [m1]; exact Nat.le_of_ble_eq_true rfl)
      (fun _ _ _ _ z => by cases z)
      (fun _ _ _ _ z => by cases z)
      (fun _ _ _ _ z => by cases z)
      (fun _ _ _ _ z => by cases z)
      (fun p e R s m args below meth c Q n0 F hret => ?_)
    rw [m1] at F hret ⊢
    rw [mc_S_status] at F hret
    exact cuts_s (K := 400) (M := 5) (D := D_S_status N) (B := fun _ _ _ _ _ => none) F hret (chkT_ok chk_S_status) (hM_S_status N) (fun _ _ _ _ _ z => by cases z) (hD_S_status N) N 0 _ _ _ hf
  · cases hf
def T_S_top : List (List (Option RW)) := [
  [some (.aload_n 0, 1, [0], 0, 0), some (.getfield 71, 3, [11, 9, 1], 0, 0), none, none, some (.lreturn, 1, [], 0, 0)]]
def f_S_top (N : Nat) (h : MH) : Option (Int64 × MH) :=
  some (gJ h 1 9, h)
def C_S_top (N : Nat) : MC := (KDL, false, (fun _ => 0), jsB, (fun _ _ _ => none), (fun _ _ _ => none), (fun _ _ _ => none), (fun _ _ _ => none))
def D_S_top (N : Nat) (n pc : Nat) (lv : ML) (st : List MV) (h : MH) : Option (Int64 × MH) :=
  match Nat.beq pc 0 with
  | true => (match lk lv 0, st with
    | some (.inr (.inr (0, 11, 1))), [] => f_S_top N h
    | _, _ => none)
  | false => none
set_option maxRecDepth 1000000 in
theorem E_S_top_0 (N : Nat) (n : Nat) (h : MH) : seg (C_S_top N) 1 0 rJ T_S_top [0] (fun q lv st h => match Nat.ble 1 q with
    | true => D_S_top N n q lv st h
    | false => none) 400 true 0 [(0, .inr (.inr (0, 11, 1)))] [] h = f_S_top N h := (rfl)
set_option maxRecDepth 1000000 in
theorem chk_S_top : chkT 11 false prog_1_method_3_code T_S_top = true := by decide +kernel
theorem mc_S_top : mC 110 = prog_1_method_3_code := by rfl
theorem mx_S_top : mL 110 = 1 ∧ mR 110 = some .long ∧ mK 110 = 1 ∧ (mN 110).cls = cN 11 := by decide +kernel
theorem hD_S_top (N : Nat) {r : Int64 × MH} : ∀ n pc lv st h, D_S_top N n pc lv st h = some r → ∃ lv', (∀ q ∈ lv', q ∈ lv) ∧ seg (C_S_top N) 1 0 rJ T_S_top [0] (fun q lv st h => match Nat.ble (pc + 1) q with
    | true => D_S_top N n q lv st h
    | false => none) 400 true pc lv' st h = some r := by
  intro n pc lv st h hf
  unfold D_S_top at hf
  split at hf
  · rename_i hb
    have hb := Nat.eq_of_beq_eq_true hb
    subst hb
    split at hf
    · rename_i e0
      exact ⟨_, (sub_cons e0 sub_nil), (E_S_top_0 N n h).trans hf⟩
    · cases hf
  · skip
    cases hf
theorem hM_S_top (N : Nat) {r : Int64 × MH} : ∀ n pc lv st h, D_S_top N n pc lv st h = some r → pc < 5 := by
  intro n pc lv st h hf
  unfold D_S_top at hf
  split at hf
  · rename_i hb
    rw [Nat.eq_of_beq_eq_true hb]
    decide
  · skip
    cases hf
theorem s_S_top {l : Launch} {E : EV} {N : Nat} {as : List MV} {h : MH} {r : Int64 × MH} (hf : w_S_top (f_S_top N) as h = some r) : SndM l E false 0 110 as h (some (.inr (.inl r.1))) r.2 := by
  unfold w_S_top at hf
  split at hf
  · obtain ⟨m1, m2, m3, m4⟩ := mx_S_top
    refine snd_of (C := C_S_top N) (own := 11) (rz := 0) (lim := 115) rJ_eq m2 m4 pl_110 (TB_in _ cw_110 rfl) ⟨(fun _ => ⟨_, _, _, _, _, _, rfl, rfl, by rw [m4]; rfl⟩), (fun z => by rw [m3] at z; cases z)⟩ (fun z => by cases z) KDL_take rfl rfl (fun z => by cases z) (fun z => by cases z) (fun _ => rfl) (by rw [m1]; exact Nat.le_of_ble_eq_true rfl)
      (fun _ _ _ _ z => by cases z)
      (fun _ _ _ _ z => by cases z)
      (fun _ _ _ _ z => by cases z)
      (fun _ _ _ _ z => by cases z)
      (fun p e R s m args below meth c Q n0 F hret => ?_)
    rw [m1] at F hret ⊢
    rw [mc_S_top] at F hret
    exact cuts_s (K := 400) (M := 5) (D := D_S_top N) (B := fun _ _ _ _ _ => none) F hret (chkT_ok chk_S_top) (hM_S_top N) (fun _ _ _ _ _ z => by cases z) (hD_S_top N) N 0 _ _ _ hf
  · cases hf
def T_S_bottom : List (List (Option RW)) := [
  [some (.aload_n 0, 1, [0], 0, 0), some (.getfield 75, 3, [11, 10, 1], 0, 0), none, none, some (.lreturn, 1, [], 0, 0)]]
def f_S_bottom (N : Nat) (h : MH) : Option (Int64 × MH) :=
  some (gJ h 1 10, h)
def C_S_bottom (N : Nat) : MC := (KDL, false, (fun _ => 0), jsB, (fun _ _ _ => none), (fun _ _ _ => none), (fun _ _ _ => none), (fun _ _ _ => none))
def D_S_bottom (N : Nat) (n pc : Nat) (lv : ML) (st : List MV) (h : MH) : Option (Int64 × MH) :=
  match Nat.beq pc 0 with
  | true => (match lk lv 0, st with
    | some (.inr (.inr (0, 11, 1))), [] => f_S_bottom N h
    | _, _ => none)
  | false => none
set_option maxRecDepth 1000000 in
theorem E_S_bottom_0 (N : Nat) (n : Nat) (h : MH) : seg (C_S_bottom N) 1 0 rJ T_S_bottom [0] (fun q lv st h => match Nat.ble 1 q with
    | true => D_S_bottom N n q lv st h
    | false => none) 400 true 0 [(0, .inr (.inr (0, 11, 1)))] [] h = f_S_bottom N h := (rfl)
set_option maxRecDepth 1000000 in
theorem chk_S_bottom : chkT 11 false prog_1_method_4_code T_S_bottom = true := by decide +kernel
theorem mc_S_bottom : mC 111 = prog_1_method_4_code := by rfl
theorem mx_S_bottom : mL 111 = 1 ∧ mR 111 = some .long ∧ mK 111 = 1 ∧ (mN 111).cls = cN 11 := by decide +kernel
theorem hD_S_bottom (N : Nat) {r : Int64 × MH} : ∀ n pc lv st h, D_S_bottom N n pc lv st h = some r → ∃ lv', (∀ q ∈ lv', q ∈ lv) ∧ seg (C_S_bottom N) 1 0 rJ T_S_bottom [0] (fun q lv st h => match Nat.ble (pc + 1) q with
    | true => D_S_bottom N n q lv st h
    | false => none) 400 true pc lv' st h = some r := by
  intro n pc lv st h hf
  unfold D_S_bottom at hf
  split at hf
  · rename_i hb
    have hb := Nat.eq_of_beq_eq_true hb
    subst hb
    split at hf
    · rename_i e0
      exact ⟨_, (sub_cons e0 sub_nil), (E_S_bottom_0 N n h).trans hf⟩
    · cases hf
  · skip
    cases hf
theorem hM_S_bottom (N : Nat) {r : Int64 × MH} : ∀ n pc lv st h, D_S_bottom N n pc lv st h = some r → pc < 5 := by
  intro n pc lv st h hf
  unfold D_S_bottom at hf
  split at hf
  · rename_i hb
    rw [Nat.eq_of_beq_eq_true hb]
    decide
  · skip
    cases hf
theorem s_S_bottom {l : Launch} {E : EV} {N : Nat} {as : List MV} {h : MH} {r : Int64 × MH} (hf : w_S_bottom (f_S_bottom N) as h = some r) : SndM l E false 0 111 as h (some (.inr (.inl r.1))) r.2 := by
  unfold w_S_bottom at hf
  split at hf
  · obtain ⟨m1, m2, m3, m4⟩ := mx_S_bottom
    refine snd_of (C := C_S_bottom N) (own := 11) (rz := 0) (lim := 115) rJ_eq m2 m4 pl_111 (TB_in _ cw_111 rfl) ⟨(fun _ => ⟨_, _, _, _, _, _, rfl, rfl, by rw [m4]; rfl⟩), (fun z => by rw [m3] at z; cases z)⟩ (fun z => by cases z) KDL_take rfl rfl (fun z => by cases z) (fun z => by cases z) (fun _ => rfl) (by rw [m1]; exact Nat.le_of_ble_eq_true rfl)
      (fun _ _ _ _ z => by cases z)
      (fun _ _ _ _ z => by cases z)
      (fun _ _ _ _ z => by cases z)
      (fun _ _ _ _ z => by cases z)
      (fun p e R s m args below meth c Q n0 F hret => ?_)
    rw [m1] at F hret ⊢
    rw [mc_S_bottom] at F hret
    exact cuts_s (K := 400) (M := 5) (D := D_S_bottom N) (B := fun _ _ _ _ _ => none) F hret (chkT_ok chk_S_bottom) (hM_S_bottom N) (fun _ _ _ _ _ z => by cases z) (hD_S_bottom N) N 0 _ _ _ hf
  · cases hf
def T_S_allow : List (List (Option RW)) := [
  [some (.aload_n 0, 1, [0], 0, 0), some (.iconst 0, 1, [], 0, 0), some (.putfield 85, 3, [11, 12, 0], 0, 0), none, none, some (.iconst 1, 1, [], 1, 0), some (.ireturn, 1, [], 0, 0)]]
def f_S_allow (N : Nat) (h : MH) : Option (Int32 × MH) :=
  let h1 : MH := sI h 1 12 0
  some (1, h1)
def C_S_allow (N : Nat) : MC := (KDL, false, (fun _ => 0), jsB, (fun _ _ _ => none), (fun _ _ _ => none), (fun _ _ _ => none), (fun _ _ _ => none))
def D_S_allow (N : Nat) (n pc : Nat) (lv : ML) (st : List MV) (h : MH) : Option (Int32 × MH) :=
  match Nat.beq pc 0 with
  | true => (match lk lv 0, st with
    | some (.inr (.inr (0, 11, 1))), [] => f_S_allow N h
    | _, _ => none)
  | false => none
set_option maxRecDepth 1000000 in
theorem E_S_allow_0 (N : Nat) (n : Nat) (h : MH) : seg (C_S_allow N) 1 1 rI T_S_allow [0] (fun q lv st h => match Nat.ble 1 q with
    | true => D_S_allow N n q lv st h
    | false => none) 400 true 0 [(0, .inr (.inr (0, 11, 1)))] [] h = f_S_allow N h := (rfl)
set_option maxRecDepth 1000000 in
theorem chk_S_allow : chkT 11 false prog_1_method_38_code T_S_allow = true := by decide +kernel
theorem mc_S_allow : mC 145 = prog_1_method_38_code := by rfl
theorem mx_S_allow : mL 145 = 1 ∧ mR 145 = some .boolean ∧ mK 145 = 1 ∧ (mN 145).cls = cN 11 := by decide +kernel
theorem hD_S_allow (N : Nat) {r : Int32 × MH} : ∀ n pc lv st h, D_S_allow N n pc lv st h = some r → ∃ lv', (∀ q ∈ lv', q ∈ lv) ∧ seg (C_S_allow N) 1 1 rI T_S_allow [0] (fun q lv st h => match Nat.ble (pc + 1) q with
    | true => D_S_allow N n q lv st h
    | false => none) 400 true pc lv' st h = some r := by
  intro n pc lv st h hf
  unfold D_S_allow at hf
  split at hf
  · rename_i hb
    have hb := Nat.eq_of_beq_eq_true hb
    subst hb
    split at hf
    · rename_i e0
      exact ⟨_, (sub_cons e0 sub_nil), (E_S_allow_0 N n h).trans hf⟩
    · cases hf
  · skip
    cases hf
theorem hM_S_allow (N : Nat) {r : Int32 × MH} : ∀ n pc lv st h, D_S_allow N n pc lv st h = some r → pc < 7 := by
  intro n pc lv st h hf
  unfold D_S_allow at hf
  split at hf
  · rename_i hb
    rw [Nat.eq_of_beq_eq_true hb]
    decide
  · skip
    cases hf
theorem s_S_allow {l : Launch} {E : EV} {N : Nat} {as : List MV} {h : MH} {r : Int32 × MH} (hf : w_S_allow (f_S_allow N) as h = some r) : SndM l E false 0 145 as h (some (.inl r.1)) r.2 := by
  unfold w_S_allow at hf
  split at hf
  · obtain ⟨m1, m2, m3, m4⟩ := mx_S_allow
    refine snd_of (C := C_S_allow N) (own := 11) (rz := 1) (lim := 115) rI_eq m2 m4 pl_145 (TB_in _ cw_145 rfl) ⟨(fun _ => ⟨_, _, _, _, _, _, rfl, rfl, by rw [m4]; rfl⟩), (fun z => by rw [m3] at z; cases z)⟩ (fun z => by cases z) KDL_take rfl rfl (fun z => by cases z) (fun z => by cases z) (fun _ => rfl) (by rw [m1]; exact Nat.le_of_ble_eq_true rfl)
      (fun _ _ _ _ z => by cases z)
      (fun _ _ _ _ z => by cases z)
      (fun _ _ _ _ z => by cases z)
      (fun _ _ _ _ z => by cases z)
      (fun p e R s m args below meth c Q n0 F hret => ?_)
    rw [m1] at F hret ⊢
    rw [mc_S_allow] at F hret
    exact cuts_s (K := 400) (M := 7) (D := D_S_allow N) (B := fun _ _ _ _ _ => none) F hret (chkT_ok chk_S_allow) (hM_S_allow N) (fun _ _ _ _ _ z => by cases z) (hD_S_allow N) N 0 _ _ _ hf
  · cases hf
def T_S_deny : List (List (Option RW)) := [
  [some (.aload_n 0, 1, [0], 0, 0), some (.iload_n 1, 1, [1], 0, 0), some (.putfield 85, 3, [11, 12, 0], 0, 0), none, none, some (.iconst 0, 1, [], 0, 0), some (.ireturn, 1, [], 0, 0)]]
def f_S_deny (N : Nat) (a1 : Int32) (h : MH) : Option (Int32 × MH) :=
  let h1 : MH := sI h 1 12 a1
  some (0, h1)
def C_S_deny (N : Nat) : MC := (KDL, false, (fun _ => 0), jsB, (fun _ _ _ => none), (fun _ _ _ => none), (fun _ _ _ => none), (fun _ _ _ => none))
def D_S_deny (N : Nat) (n pc : Nat) (lv : ML) (st : List MV) (h : MH) : Option (Int32 × MH) :=
  match Nat.beq pc 0 with
  | true => (match lk lv 0, lk lv 1, st with
    | some (.inr (.inr (0, 11, 1))), some (.inl a1), [] => f_S_deny N a1 h
    | _, _, _ => none)
  | false => none
set_option maxRecDepth 1000000 in
theorem E_S_deny_0 (N : Nat) (n : Nat) (a1 : Int32) (h : MH) : seg (C_S_deny N) 2 1 rI T_S_deny [0] (fun q lv st h => match Nat.ble 1 q with
    | true => D_S_deny N n q lv st h
    | false => none) 400 true 0 [(0, .inr (.inr (0, 11, 1))), (1, .inl a1)] [] h = f_S_deny N a1 h := (rfl)
set_option maxRecDepth 1000000 in
theorem chk_S_deny : chkT 11 false prog_1_method_40_code T_S_deny = true := by decide +kernel
theorem mc_S_deny : mC 147 = prog_1_method_40_code := by rfl
theorem mx_S_deny : mL 147 = 2 ∧ mR 147 = some .boolean ∧ mK 147 = 1 ∧ (mN 147).cls = cN 11 := by decide +kernel
theorem hD_S_deny (N : Nat) {r : Int32 × MH} : ∀ n pc lv st h, D_S_deny N n pc lv st h = some r → ∃ lv', (∀ q ∈ lv', q ∈ lv) ∧ seg (C_S_deny N) 2 1 rI T_S_deny [0] (fun q lv st h => match Nat.ble (pc + 1) q with
    | true => D_S_deny N n q lv st h
    | false => none) 400 true pc lv' st h = some r := by
  intro n pc lv st h hf
  unfold D_S_deny at hf
  split at hf
  · rename_i hb
    have hb := Nat.eq_of_beq_eq_true hb
    subst hb
    split at hf
    · rename_i y0 e0 e1
      exact ⟨_, (sub_cons e0 (sub_cons e1 sub_nil)), (E_S_deny_0 N n _ h).trans hf⟩
    · cases hf
  · skip
    cases hf
theorem hM_S_deny (N : Nat) {r : Int32 × MH} : ∀ n pc lv st h, D_S_deny N n pc lv st h = some r → pc < 7 := by
  intro n pc lv st h hf
  unfold D_S_deny at hf
  split at hf
  · rename_i hb
    rw [Nat.eq_of_beq_eq_true hb]
    decide
  · skip
    cases hf
theorem s_S_deny {l : Launch} {E : EV} {N : Nat} {as : List MV} {h : MH} {r : Int32 × MH} (hf : w_S_deny (f_S_deny N) as h = some r) : SndM l E false 0 147 as h (some (.inl r.1)) r.2 := by
  unfold w_S_deny at hf
  split at hf
  · obtain ⟨m1, m2, m3, m4⟩ := mx_S_deny
    refine snd_of (C := C_S_deny N) (own := 11) (rz := 1) (lim := 115) rI_eq m2 m4 pl_147 (TB_in _ cw_147 rfl) ⟨(fun _ => ⟨_, _, _, _, _, _, rfl, rfl, by rw [m4]; rfl⟩), (fun z => by rw [m3] at z; cases z)⟩ (fun z => by cases z) KDL_take rfl rfl (fun z => by cases z) (fun z => by cases z) (fun _ => rfl) (by rw [m1]; exact Nat.le_of_ble_eq_true rfl)
      (fun _ _ _ _ z => by cases z)
      (fun _ _ _ _ z => by cases z)
      (fun _ _ _ _ z => by cases z)
      (fun _ _ _ _ z => by cases z)
      (fun p e R s m args below meth c Q n0 F hret => ?_)
    rw [m1] at F hret ⊢
    rw [mc_S_deny] at F hret
    exact cuts_s (K := 400) (M := 7) (D := D_S_deny N) (B := fun _ _ _ _ _ => none) F hret (chkT_ok chk_S_deny) (hM_S_deny N) (fun _ _ _ _ _ z => by cases z) (hD_S_deny N) N 0 _ _ _ hf
  · cases hf
def T_S_isTray : List (List (Option RW)) := [
  [some (.iload_n 0, 1, [0], 0, 0), some (.iconst 4, 1, [], 4, 0), some (.invokestatic 186, 3, [2, 151, 2, 0], 0, 0), none, none, some (.ireturn, 1, [], 0, 0)]]
def f_S_isTray (N : Nat) (a0 : Int32) (h : MH) : Option (Int32 × MH) :=
  (f_S_isOneOf N a0 4 h).bind (fun x1 =>
  match narOK 1 x1.1 with
  | true => some (x1.1, x1.2)
  | false => none)
def C_S_isTray (N : Nat) : MC := (KDL, false, (fun _ => 0), jsB, (fun j => match Nat.beq j 151 with
    | true => w_S_isOneOf (f_S_isOneOf N)
    | false => fun _ _ => none), (fun _ _ _ => none), (fun _ _ _ => none), (fun _ _ _ => none))
def D_S_isTray (N : Nat) (n pc : Nat) (lv : ML) (st : List MV) (h : MH) : Option (Int32 × MH) :=
  match Nat.beq pc 0 with
  | true => (match lk lv 0, st with
    | some (.inl a0), [] => f_S_isTray N a0 h
    | _, _ => none)
  | false => none
set_option maxRecDepth 1000000 in
theorem E_S_isTray_0 (N : Nat) (n : Nat) (a0 : Int32) (h : MH) : seg (C_S_isTray N) 1 1 rI T_S_isTray [0] (fun q lv st h => match Nat.ble 1 q with
    | true => D_S_isTray N n q lv st h
    | false => none) 400 true 0 [(0, .inl a0)] [] h = f_S_isTray N a0 h := (rfl)
set_option maxRecDepth 1000000 in
theorem chk_S_isTray : chkT 11 false prog_1_method_45_code T_S_isTray = true := by decide +kernel
theorem mc_S_isTray : mC 152 = prog_1_method_45_code := by rfl
theorem mx_S_isTray : mL 152 = 1 ∧ mR 152 = some .boolean ∧ mK 152 = 0 ∧ (mN 152).cls = cN 11 := by decide +kernel
theorem hD_S_isTray (N : Nat) {r : Int32 × MH} : ∀ n pc lv st h, D_S_isTray N n pc lv st h = some r → ∃ lv', (∀ q ∈ lv', q ∈ lv) ∧ seg (C_S_isTray N) 1 1 rI T_S_isTray [0] (fun q lv st h => match Nat.ble (pc + 1) q with
    | true => D_S_isTray N n q lv st h
    | false => none) 400 true pc lv' st h = some r := by
  intro n pc lv st h hf
  unfold D_S_isTray at hf
  split at hf
  · rename_i hb
    have hb := Nat.eq_of_beq_eq_true hb
    subst hb
    split at hf
    · rename_i y0 e0
      exact ⟨_, (sub_cons e0 sub_nil), (E_S_isTray_0 N n _ h).trans hf⟩
    · cases hf
  · skip
    cases hf
theorem hM_S_isTray (N : Nat) {r : Int32 × MH} : ∀ n pc lv st h, D_S_isTray N n pc lv st h = some r → pc < 6 := by
  intro n pc lv st h hf
  unfold D_S_isTray at hf
  split at hf
  · rename_i hb
    rw [Nat.eq_of_beq_eq_true hb]
    decide
  · skip
    cases hf
theorem s_S_isTray {l : Launch} {E : EV} {N : Nat} {as : List MV} {h : MH} {r : Int32 × MH} (hf : w_S_isTray (f_S_isTray N) as h = some r) : SndM l E false 1 152 as h (some (.inl r.1)) r.2 := by
  unfold w_S_isTray at hf
  split at hf
  · obtain ⟨m1, m2, m3, m4⟩ := mx_S_isTray
    refine snd_of (C := C_S_isTray N) (own := 11) (rz := 1) (lim := 115) rI_eq m2 m4 pl_152 (TB_in _ cw_152 rfl) ⟨(fun z => by rw [m3] at z; cases z), (fun z => by rw [m3] at z; cases z)⟩ (fun z => by cases z) KDL_take rfl rfl (fun z => by cases z) (fun z => by cases z) (fun _ => rfl) (by rw [m1]; exact Nat.le_of_ble_eq_true rfl)
      (fun j as h x z => by
      dsimp only [C_S_isTray] at z
      cases hb : Nat.beq j 151 with
      | true =>
        have hb := Nat.eq_of_beq_eq_true hb
        subst hb
        exact ⟨0, by decide, (fun z => by cases z), s_S_isOneOf z⟩
      | false =>
        rw [hb] at z
        dsimp only at z
        cases z)
      (fun _ _ _ _ z => by cases z)
      (fun _ _ _ _ z => by cases z)
      (fun _ _ _ _ z => by cases z)
      (fun p e R s m args below meth c Q n0 F hret => ?_)
    rw [m1] at F hret ⊢
    rw [mc_S_isTray] at F hret
    exact cuts_s (K := 400) (M := 6) (D := D_S_isTray N) (B := fun _ _ _ _ _ => none) F hret (chkT_ok chk_S_isTray) (hM_S_isTray N) (fun _ _ _ _ _ z => by cases z) (hD_S_isTray N) N 0 _ _ _ hf
  · cases hf
def T_S_tray : List (List (Option RW)) := [
  [some (.iload_n 1, 1, [1], 0, 0), some (.invokestatic 105, 3, [2, 152, 1, 0], 0, 0), none, none, some (.ifCond .eq 22, 3, [26], 0, 0), none, none, some (.iload_n 2, 1, [2], 0, 0), some (.ifCond .lt 18, 3, [26], 0, 0), none, none, some (.iload_n 2, 1, [2], 0, 0), some (.iconst 4, 1, [], 4, 0), some (.if_icmp .ge 13, 3, [26], 0, 0), none, none, some (.iload_n 3, 1, [3], 0, 0), some (.ifCond .lt 9, 3, [26], 0, 0), none, none, some (.iload_n 3, 1, [3], 0, 0), some (.bipush 60, 2, [], 60, 0), none, some (.if_icmp .le 9, 3, [32], 0, 0), none, none, some (.aload_n 0, 1, [0], 0, 0), some (.iconst 1, 1, [], 1, 0), some (.invokevirtual 109, 3, [0, 147, 2, 0], 0, 0), none, none, some (.ireturn, 1, [], 0, 0)],
  [some (.aload_n 0, 1, [0], 0, 0), some (.getfield 11, 3, [11, 0, 2, 5, 4, 1], 0, 0), none, none, some (.iload_n 1, 1, [1], 0, 0), some (.aaload, 1, [], 0, 0), some (.iload_n 2, 1, [2], 0, 0), some (.iload_n 3, 1, [3], 0, 0), some (.invokevirtual 112, 3, [1, 85, 3, 3], 0, 0), none, none, some (.aload_n 0, 1, [0], 0, 0), some (.invokevirtual 116, 3, [0, 145, 1, 0], 0, 0), none, none, some (.ireturn, 1, [], 0, 0)]]
def f_S_tray (N : Nat) (a1 : Int32) (a2 : Int32) (a3 : Int32) (h : MH) : Option (Int32 × MH) :=
  (f_S_isTray N a1 h).bind (fun x1 =>
  if x1.1 = 0 then
  ((f_S_deny N 1 x1.2).bind (fun x2 =>
  match narOK 1 x2.1 with
  | true => some (x2.1, x2.2)
  | false => none))
  else
  (if a2 < 0 then
  ((f_S_deny N 1 x1.2).bind (fun x3 =>
  match narOK 1 x3.1 with
  | true => some (x3.1, x3.2)
  | false => none))
  else
  (if 4 ≤ a2 then
  ((f_S_deny N 1 x1.2).bind (fun x4 =>
  match narOK 1 x4.1 with
  | true => some (x4.1, x4.2)
  | false => none))
  else
  (if a3 < 0 then
  ((f_S_deny N 1 x1.2).bind (fun x5 =>
  match narOK 1 x5.1 with
  | true => some (x5.1, x5.2)
  | false => none))
  else
  (if a3 ≤ 60 then
  (if inB a1 4 = true then
  ((f_Tray_lay N (gR x1.2 2 (iN a1)) a2 a3 x1.2).bind (fun x6 =>
  (f_S_allow N x6).bind (fun x7 =>
  match narOK 1 x7.1 with
  | true => some (x7.1, x7.2)
  | false => none)))
  else none)
  else
  ((f_S_deny N 1 x1.2).bind (fun x8 =>
  match narOK 1 x8.1 with
  | true => some (x8.1, x8.2)
  | false => none)))))))
def C_S_tray (N : Nat) : MC := (KDL, false, (fun _ => 0), jsB, (fun j => match Nat.beq j 145 with
    | true => w_S_allow (f_S_allow N)
    | false => match Nat.beq j 147 with
    | true => w_S_deny (f_S_deny N)
    | false => match Nat.beq j 152 with
    | true => w_S_isTray (f_S_isTray N)
    | false => fun _ _ => none), (fun _ _ _ => none), (fun _ _ _ => none), (fun j => match Nat.beq j 85 with
    | true => w_Tray_lay (f_Tray_lay N)
    | false => fun _ _ => none))
def D_S_tray (N : Nat) (n pc : Nat) (lv : ML) (st : List MV) (h : MH) : Option (Int32 × MH) :=
  match Nat.beq pc 0 with
  | true => (match lk lv 0, lk lv 1, lk lv 2, lk lv 3, st with
    | some (.inr (.inr (0, 11, 1))), some (.inl a1), some (.inl a2), some (.inl a3), [] => f_S_tray N a1 a2 a3 h
    | _, _, _, _, _ => none)
  | false => none
set_option maxRecDepth 1000000 in
theorem E_S_tray_0 (N : Nat) (n : Nat) (a1 : Int32) (a2 : Int32) (a3 : Int32) (h : MH) : seg (C_S_tray N) 4 1 rI T_S_tray [0] (fun q lv st h => match Nat.ble 1 q with
    | true => D_S_tray N n q lv st h
    | false => none) 400 true 0 [(0, .inr (.inr (0, 11, 1))), (1, .inl a1), (2, .inl a2), (3, .inl a3)] [] h = f_S_tray N a1 a2 a3 h := (rfl)
set_option maxRecDepth 1000000 in
theorem chk_S_tray : chkT 11 false prog_1_method_5_code T_S_tray = true := by decide +kernel
theorem mc_S_tray : mC 112 = prog_1_method_5_code := by rfl
theorem mx_S_tray : mL 112 = 4 ∧ mR 112 = some .boolean ∧ mK 112 = 1 ∧ (mN 112).cls = cN 11 := by decide +kernel
theorem hD_S_tray (N : Nat) {r : Int32 × MH} : ∀ n pc lv st h, D_S_tray N n pc lv st h = some r → ∃ lv', (∀ q ∈ lv', q ∈ lv) ∧ seg (C_S_tray N) 4 1 rI T_S_tray [0] (fun q lv st h => match Nat.ble (pc + 1) q with
    | true => D_S_tray N n q lv st h
    | false => none) 400 true pc lv' st h = some r := by
  intro n pc lv st h hf
  unfold D_S_tray at hf
  split at hf
  · rename_i hb
    have hb := Nat.eq_of_beq_eq_true hb
    subst hb
    split at hf
    · rename_i y0 y1 y2 e0 e1 e2 e3
      exact ⟨_, (sub_cons e0 (sub_cons e1 (sub_cons e2 (sub_cons e3 sub_nil)))), (E_S_tray_0 N n _ _ _ h).trans hf⟩
    · cases hf
  · skip
    cases hf
theorem hM_S_tray (N : Nat) {r : Int32 × MH} : ∀ n pc lv st h, D_S_tray N n pc lv st h = some r → pc < 48 := by
  intro n pc lv st h hf
  unfold D_S_tray at hf
  split at hf
  · rename_i hb
    rw [Nat.eq_of_beq_eq_true hb]
    decide
  · skip
    cases hf
theorem s_S_tray {l : Launch} {E : EV} {N : Nat} {as : List MV} {h : MH} {r : Int32 × MH} (hf : w_S_tray (f_S_tray N) as h = some r) : SndM l E false 2 112 as h (some (.inl r.1)) r.2 := by
  unfold w_S_tray at hf
  split at hf
  · obtain ⟨m1, m2, m3, m4⟩ := mx_S_tray
    refine snd_of (C := C_S_tray N) (own := 11) (rz := 1) (lim := 115) rI_eq m2 m4 pl_112 (TB_in _ cw_112 rfl) ⟨(fun _ => ⟨_, _, _, _, _, _, rfl, rfl, by rw [m4]; rfl⟩), (fun z => by rw [m3] at z; cases z)⟩ (fun z => by cases z) KDL_take rfl rfl (fun z => by cases z) (fun z => by cases z) (fun _ => rfl) (by rw [m1]; exact Nat.le_of_ble_eq_true rfl)
      (fun j as h x z => by
      dsimp only [C_S_tray] at z
      cases hb : Nat.beq j 145 with
      | true =>
        have hb := Nat.eq_of_beq_eq_true hb
        subst hb
        exact ⟨0, by decide, (fun z => by cases z), s_S_allow z⟩
      | false =>
        rw [hb] at z
        dsimp only at z
        cases hb : Nat.beq j 147 with
        | true =>
          have hb := Nat.eq_of_beq_eq_true hb
          subst hb
          exact ⟨0, by decide, (fun z => by cases z), s_S_deny z⟩
        | false =>
          rw [hb] at z
          dsimp only at z
          cases hb : Nat.beq j 152 with
          | true =>
            have hb := Nat.eq_of_beq_eq_true hb
            subst hb
            exact ⟨1, by decide, (fun z => by cases z), s_S_isTray z⟩
          | false =>
            rw [hb] at z
            dsimp only at z
            cases z)
      (fun _ _ _ _ z => by cases z)
      (fun _ _ _ _ z => by cases z)
      (fun j as h x z => by
      dsimp only [C_S_tray] at z
      cases hb : Nat.beq j 85 with
      | true =>
        have hb := Nat.eq_of_beq_eq_true hb
        subst hb
        exact ⟨1, by decide, (fun z => by cases z), s_Tray_lay z⟩
      | false =>
        rw [hb] at z
        dsimp only at z
        cases z)
      (fun p e R s m args below meth c Q n0 F hret => ?_)
    rw [m1] at F hret ⊢
    rw [mc_S_tray] at F hret
    exact cuts_s (K := 400) (M := 48) (D := D_S_tray N) (B := fun _ _ _ _ _ => none) F hret (chkT_ok chk_S_tray) (hM_S_tray N) (fun _ _ _ _ _ z => by cases z) (hD_S_tray N) N 0 _ _ _ hf
  · cases hf
def T_S_refusalOfPlace : List (List (Option RW)) := [
  [some (.iload_n 1, 1, [1], 0, 0), some (.invokestatic 105, 3, [2, 152, 1, 0], 0, 0), none, none, some (.ifCond .ne 5, 3, [9], 0, 0), none, none, some (.iconst 1, 1, [], 1, 0), some (.ireturn, 1, [], 0, 0), some (.aload_n 0, 1, [0], 0, 0), some (.getfield 11, 3, [11, 0, 2, 5, 4, 1], 0, 0), none, none, some (.iload_n 1, 1, [1], 0, 0), some (.aaload, 1, [], 0, 0), some (.invokevirtual 136, 3, [1, 84, 1, 0], 0, 0), none, none, some (.ifCond .eq 5, 3, [23], 0, 0), none, none, some (.iconst 2, 1, [], 2, 0), some (.ireturn, 1, [], 0, 0), some (.iload_n 2, 1, [2], 0, 0), some (.aload_n 0, 1, [0], 0, 0), some (.getfield 11, 3, [11, 0, 2, 5, 4, 1], 0, 0), none, none, some (.iload_n 1, 1, [1], 0, 0), some (.aaload, 1, [], 0, 0), some (.getfield 355, 3, [9, 2, 0], 0, 0), none],
  [none, some (.invokestatic 186, 3, [2, 151, 2, 0], 0, 0), none, none, some (.ifCond .eq 7, 3, [43], 0, 0), none, none, some (.iconst 0, 1, [], 0, 0), some (.goto 4, 3, [44], 0, 0), none, none, some (.iconst 3, 1, [], 3, 0), some (.ireturn, 1, [], 0, 0)]]
def f_S_refusalOfPlace (N : Nat) (a1 : Int32) (a2 : Int32) (h : MH) : Option (Int32 × MH) :=
  (f_S_isTray N a1 h).bind (fun x1 =>
  if x1.1 = 0 then
  (some (1, x1.2))
  else
  (if inB a1 4 = true then
  ((f_Tray_isMissing N (gR x1.2 2 (iN a1)) x1.2).bind (fun x2 =>
  if x2.1 = 0 then
  (if inB a1 4 = true then
  ((f_S_isOneOf N a2 (gI x2.2 (gR x2.2 2 (iN a1)) 2) x2.2).bind (fun x3 =>
  if x3.1 = 0 then
  (some (3, x3.2))
  else
  (some (0, x3.2))))
  else none)
  else
  (some (2, x2.2))))
  else none))
def C_S_refusalOfPlace (N : Nat) : MC := (KDL, false, (fun _ => 0), jsB, (fun j => match Nat.beq j 84 with
    | true => w_Tray_isMissing (f_Tray_isMissing N)
    | false => match Nat.beq j 151 with
    | true => w_S_isOneOf (f_S_isOneOf N)
    | false => match Nat.beq j 152 with
    | true => w_S_isTray (f_S_isTray N)
    | false => fun _ _ => none), (fun _ _ _ => none), (fun _ _ _ => none), (fun _ _ _ => none))
def D_S_refusalOfPlace (N : Nat) (n pc : Nat) (lv : ML) (st : List MV) (h : MH) : Option (Int32 × MH) :=
  match Nat.beq pc 0 with
  | true => (match lk lv 0, lk lv 1, lk lv 2, st with
    | some (.inr (.inr (0, 11, 1))), some (.inl a1), some (.inl a2), [] => f_S_refusalOfPlace N a1 a2 h
    | _, _, _, _ => none)
  | false => none
set_option maxRecDepth 1000000 in
theorem E_S_refusalOfPlace_0 (N : Nat) (n : Nat) (a1 : Int32) (a2 : Int32) (h : MH) : seg (C_S_refusalOfPlace N) 3 0 rI T_S_refusalOfPlace [0] (fun q lv st h => match Nat.ble 1 q with
    | true => D_S_refusalOfPlace N n q lv st h
    | false => none) 400 true 0 [(0, .inr (.inr (0, 11, 1))), (1, .inl a1), (2, .inl a2)] [] h = f_S_refusalOfPlace N a1 a2 h := (rfl)
set_option maxRecDepth 1000000 in
theorem chk_S_refusalOfPlace : chkT 11 false prog_1_method_53_code T_S_refusalOfPlace = true := by decide +kernel
theorem mc_S_refusalOfPlace : mC 160 = prog_1_method_53_code := by rfl
theorem mx_S_refusalOfPlace : mL 160 = 3 ∧ mR 160 = some .int ∧ mK 160 = 1 ∧ (mN 160).cls = cN 11 := by decide +kernel
theorem hD_S_refusalOfPlace (N : Nat) {r : Int32 × MH} : ∀ n pc lv st h, D_S_refusalOfPlace N n pc lv st h = some r → ∃ lv', (∀ q ∈ lv', q ∈ lv) ∧ seg (C_S_refusalOfPlace N) 3 0 rI T_S_refusalOfPlace [0] (fun q lv st h => match Nat.ble (pc + 1) q with
    | true => D_S_refusalOfPlace N n q lv st h
    | false => none) 400 true pc lv' st h = some r := by
  intro n pc lv st h hf
  unfold D_S_refusalOfPlace at hf
  split at hf
  · rename_i hb
    have hb := Nat.eq_of_beq_eq_true hb
    subst hb
    split at hf
    · rename_i y0 y1 e0 e1 e2
      exact ⟨_, (sub_cons e0 (sub_cons e1 (sub_cons e2 sub_nil))), (E_S_refusalOfPlace_0 N n _ _ h).trans hf⟩
    · cases hf
  · skip
    cases hf
theorem hM_S_refusalOfPlace (N : Nat) {r : Int32 × MH} : ∀ n pc lv st h, D_S_refusalOfPlace N n pc lv st h = some r → pc < 45 := by
  intro n pc lv st h hf
  unfold D_S_refusalOfPlace at hf
  split at hf
  · rename_i hb
    rw [Nat.eq_of_beq_eq_true hb]
    decide
  · skip
    cases hf
theorem s_S_refusalOfPlace {l : Launch} {E : EV} {N : Nat} {as : List MV} {h : MH} {r : Int32 × MH} (hf : w_S_refusalOfPlace (f_S_refusalOfPlace N) as h = some r) : SndM l E false 2 160 as h (some (.inl r.1)) r.2 := by
  unfold w_S_refusalOfPlace at hf
  split at hf
  · obtain ⟨m1, m2, m3, m4⟩ := mx_S_refusalOfPlace
    refine snd_of (C := C_S_refusalOfPlace N) (own := 11) (rz := 0) (lim := 115) rI_eq m2 m4 pl_160 (TB_in _ cw_160 rfl) ⟨(fun _ => ⟨_, _, _, _, _, _, rfl, rfl, by rw [m4]; rfl⟩), (fun z => by rw [m3] at z; cases z)⟩ (fun z => by cases z) KDL_take rfl rfl (fun z => by cases z) (fun z => by cases z) (fun _ => rfl) (by rw [m1]; exact Nat.le_of_ble_eq_true rfl)
      (fun j as h x z => by
      dsimp only [C_S_refusalOfPlace] at z
      cases hb : Nat.beq j 84 with
      | true =>
        have hb := Nat.eq_of_beq_eq_true hb
        subst hb
        exact ⟨0, by decide, (fun z => by cases z), s_Tray_isMissing z⟩
      | false =>
        rw [hb] at z
        dsimp only at z
        cases hb : Nat.beq j 151 with
        | true =>
          have hb := Nat.eq_of_beq_eq_true hb
          subst hb
          exact ⟨0, by decide, (fun z => by cases z), s_S_isOneOf z⟩
        | false =>
          rw [hb] at z
          dsimp only at z
          cases hb : Nat.beq j 152 with
          | true =>
            have hb := Nat.eq_of_beq_eq_true hb
            subst hb
            exact ⟨1, by decide, (fun z => by cases z), s_S_isTray z⟩
          | false =>
            rw [hb] at z
            dsimp only at z
            cases z)
      (fun _ _ _ _ z => by cases z)
      (fun _ _ _ _ z => by cases z)
      (fun _ _ _ _ z => by cases z)
      (fun p e R s m args below meth c Q n0 F hret => ?_)
    rw [m1] at F hret ⊢
    rw [mc_S_refusalOfPlace] at F hret
    exact cuts_s (K := 400) (M := 45) (D := D_S_refusalOfPlace N) (B := fun _ _ _ _ _ => none) F hret (chkT_ok chk_S_refusalOfPlace) (hM_S_refusalOfPlace N) (fun _ _ _ _ _ z => by cases z) (hD_S_refusalOfPlace N) N 0 _ _ _ hf
  · cases hf
def T_S_write : List (List (Option RW)) := [
  [some (.aload_n 0, 1, [0], 0, 0), some (.iload_n 1, 1, [1], 0, 0), some (.iload_n 2, 1, [2], 0, 0), some (.invokevirtual 120, 3, [0, 160, 3, 0], 0, 0), none, none, some (.istore 5, 2, [5], 0, 0), none, some (.iload 5, 2, [5], 0, 0), none, some (.ifCond .eq 10, 3, [20], 0, 0), none, none, some (.aload_n 0, 1, [0], 0, 0), some (.iload 5, 2, [5], 0, 0), none, some (.invokevirtual 109, 3, [0, 147, 2, 0], 0, 0), none, none, some (.ireturn, 1, [], 0, 0), some (.aload_n 0, 1, [0], 0, 0), some (.getfield 11, 3, [11, 0, 2, 5, 4, 1], 0, 0), none, none, some (.iload_n 1, 1, [1], 0, 0), some (.aaload, 1, [], 0, 0), some (.iload_n 2, 1, [2], 0, 0), some (.lload_n 3, 1, [3], 0, 0), some (.invokevirtual 124, 3, [1, 88, 3, 3], 0, 0), none, none, some (.aload_n 0, 1, [0], 0, 0)],
  [some (.invokevirtual 116, 3, [0, 145, 1, 0], 0, 0), none, none, some (.ireturn, 1, [], 0, 0)]]
def f_S_write (N : Nat) (a1 : Int32) (a2 : Int32) (a3 : Int64) (h : MH) : Option (Int32 × MH) :=
  (f_S_refusalOfPlace N a1 a2 h).bind (fun x1 =>
  if x1.1 = 0 then
  (if inB a1 4 = true then
  ((f_Tray_put N (gR x1.2 2 (iN a1)) a2 a3 x1.2).bind (fun x2 =>
  (f_S_allow N x2).bind (fun x3 =>
  match narOK 1 x3.1 with
  | true => some (x3.1, x3.2)
  | false => none)))
  else none)
  else
  ((f_S_deny N x1.1 x1.2).bind (fun x4 =>
  match narOK 1 x4.1 with
  | true => some (x4.1, x4.2)
  | false => none)))
def C_S_write (N : Nat) : MC := (KDL, false, (fun _ => 0), jsB, (fun j => match Nat.beq j 145 with
    | true => w_S_allow (f_S_allow N)
    | false => match Nat.beq j 147 with
    | true => w_S_deny (f_S_deny N)
    | false => match Nat.beq j 160 with
    | true => w_S_refusalOfPlace (f_S_refusalOfPlace N)
    | false => fun _ _ => none), (fun _ _ _ => none), (fun _ _ _ => none), (fun j => match Nat.beq j 88 with
    | true => w_Tray_put (f_Tray_put N)
    | false => fun _ _ => none))
def D_S_write (N : Nat) (n pc : Nat) (lv : ML) (st : List MV) (h : MH) : Option (Int32 × MH) :=
  match Nat.beq pc 0 with
  | true => (match lk lv 0, lk lv 1, lk lv 2, lk lv 3, st with
    | some (.inr (.inr (0, 11, 1))), some (.inl a1), some (.inl a2), some (.inr (.inl a3)), [] => f_S_write N a1 a2 a3 h
    | _, _, _, _, _ => none)
  | false => none
set_option maxRecDepth 1000000 in
theorem E_S_write_0 (N : Nat) (n : Nat) (a1 : Int32) (a2 : Int32) (a3 : Int64) (h : MH) : seg (C_S_write N) 6 1 rI T_S_write [0] (fun q lv st h => match Nat.ble 1 q with
    | true => D_S_write N n q lv st h
    | false => none) 400 true 0 [(0, .inr (.inr (0, 11, 1))), (1, .inl a1), (2, .inl a2), (3, .inr (.inl a3))] [] h = f_S_write N a1 a2 a3 h := (rfl)
set_option maxRecDepth 1000000 in
theorem chk_S_write : chkT 11 false prog_1_method_6_code T_S_write = true := by decide +kernel
theorem mc_S_write : mC 113 = prog_1_method_6_code := by rfl
theorem mx_S_write : mL 113 = 6 ∧ mR 113 = some .boolean ∧ mK 113 = 1 ∧ (mN 113).cls = cN 11 := by decide +kernel
theorem hD_S_write (N : Nat) {r : Int32 × MH} : ∀ n pc lv st h, D_S_write N n pc lv st h = some r → ∃ lv', (∀ q ∈ lv', q ∈ lv) ∧ seg (C_S_write N) 6 1 rI T_S_write [0] (fun q lv st h => match Nat.ble (pc + 1) q with
    | true => D_S_write N n q lv st h
    | false => none) 400 true pc lv' st h = some r := by
  intro n pc lv st h hf
  unfold D_S_write at hf
  split at hf
  · rename_i hb
    have hb := Nat.eq_of_beq_eq_true hb
    subst hb
    split at hf
    · rename_i y0 y1 y2 e0 e1 e2 e3
      exact ⟨_, (sub_cons e0 (sub_cons e1 (sub_cons e2 (sub_cons e3 sub_nil)))), (E_S_write_0 N n _ _ _ h).trans hf⟩
    · cases hf
  · skip
    cases hf
theorem hM_S_write (N : Nat) {r : Int32 × MH} : ∀ n pc lv st h, D_S_write N n pc lv st h = some r → pc < 36 := by
  intro n pc lv st h hf
  unfold D_S_write at hf
  split at hf
  · rename_i hb
    rw [Nat.eq_of_beq_eq_true hb]
    decide
  · skip
    cases hf
theorem s_S_write {l : Launch} {E : EV} {N : Nat} {as : List MV} {h : MH} {r : Int32 × MH} (hf : w_S_write (f_S_write N) as h = some r) : SndM l E false 3 113 as h (some (.inl r.1)) r.2 := by
  unfold w_S_write at hf
  split at hf
  · obtain ⟨m1, m2, m3, m4⟩ := mx_S_write
    refine snd_of (C := C_S_write N) (own := 11) (rz := 1) (lim := 115) rI_eq m2 m4 pl_113 (TB_in _ cw_113 rfl) ⟨(fun _ => ⟨_, _, _, _, _, _, rfl, rfl, by rw [m4]; rfl⟩), (fun z => by rw [m3] at z; cases z)⟩ (fun z => by cases z) KDL_take rfl rfl (fun z => by cases z) (fun z => by cases z) (fun _ => rfl) (by rw [m1]; exact Nat.le_of_ble_eq_true rfl)
      (fun j as h x z => by
      dsimp only [C_S_write] at z
      cases hb : Nat.beq j 145 with
      | true =>
        have hb := Nat.eq_of_beq_eq_true hb
        subst hb
        exact ⟨0, by decide, (fun z => by cases z), s_S_allow z⟩
      | false =>
        rw [hb] at z
        dsimp only at z
        cases hb : Nat.beq j 147 with
        | true =>
          have hb := Nat.eq_of_beq_eq_true hb
          subst hb
          exact ⟨0, by decide, (fun z => by cases z), s_S_deny z⟩
        | false =>
          rw [hb] at z
          dsimp only at z
          cases hb : Nat.beq j 160 with
          | true =>
            have hb := Nat.eq_of_beq_eq_true hb
            subst hb
            exact ⟨2, by decide, (fun z => by cases z), s_S_refusalOfPlace z⟩
          | false =>
            rw [hb] at z
            dsimp only at z
            cases z)
      (fun _ _ _ _ z => by cases z)
      (fun _ _ _ _ z => by cases z)
      (fun j as h x z => by
      dsimp only [C_S_write] at z
      cases hb : Nat.beq j 88 with
      | true =>
        have hb := Nat.eq_of_beq_eq_true hb
        subst hb
        exact ⟨1, by decide, (fun z => by cases z), s_Tray_put z⟩
      | false =>
        rw [hb] at z
        dsimp only at z
        cases z)
      (fun p e R s m args below meth c Q n0 F hret => ?_)
    rw [m1] at F hret ⊢
    rw [mc_S_write] at F hret
    exact cuts_s (K := 400) (M := 36) (D := D_S_write N) (B := fun _ _ _ _ _ => none) F hret (chkT_ok chk_S_write) (hM_S_write N) (fun _ _ _ _ _ z => by cases z) (hD_S_write N) N 0 _ _ _ hf
  · cases hf
def T_S_refuse : List (List (Option RW)) := [
  [some (.aload_n 0, 1, [0], 0, 0), some (.iload_n 1, 1, [1], 0, 0), some (.putfield 85, 3, [11, 12, 0], 0, 0), none, none, some (.iconst (-1), 1, [], (-1), 0), some (.ireturn, 1, [], 0, 0)]]
def f_S_refuse (N : Nat) (a1 : Int32) (h : MH) : Option (Int32 × MH) :=
  let h1 : MH := sI h 1 12 a1
  some ((-1), h1)
def C_S_refuse (N : Nat) : MC := (KDL, false, (fun _ => 0), jsB, (fun _ _ _ => none), (fun _ _ _ => none), (fun _ _ _ => none), (fun _ _ _ => none))
def D_S_refuse (N : Nat) (n pc : Nat) (lv : ML) (st : List MV) (h : MH) : Option (Int32 × MH) :=
  match Nat.beq pc 0 with
  | true => (match lk lv 0, lk lv 1, st with
    | some (.inr (.inr (0, 11, 1))), some (.inl a1), [] => f_S_refuse N a1 h
    | _, _, _ => none)
  | false => none
set_option maxRecDepth 1000000 in
theorem E_S_refuse_0 (N : Nat) (n : Nat) (a1 : Int32) (h : MH) : seg (C_S_refuse N) 2 0 rI T_S_refuse [0] (fun q lv st h => match Nat.ble 1 q with
    | true => D_S_refuse N n q lv st h
    | false => none) 400 true 0 [(0, .inr (.inr (0, 11, 1))), (1, .inl a1)] [] h = f_S_refuse N a1 h := (rfl)
set_option maxRecDepth 1000000 in
theorem chk_S_refuse : chkT 11 false prog_1_method_39_code T_S_refuse = true := by decide +kernel
theorem mc_S_refuse : mC 146 = prog_1_method_39_code := by rfl
theorem mx_S_refuse : mL 146 = 2 ∧ mR 146 = some .int ∧ mK 146 = 1 ∧ (mN 146).cls = cN 11 := by decide +kernel
theorem hD_S_refuse (N : Nat) {r : Int32 × MH} : ∀ n pc lv st h, D_S_refuse N n pc lv st h = some r → ∃ lv', (∀ q ∈ lv', q ∈ lv) ∧ seg (C_S_refuse N) 2 0 rI T_S_refuse [0] (fun q lv st h => match Nat.ble (pc + 1) q with
    | true => D_S_refuse N n q lv st h
    | false => none) 400 true pc lv' st h = some r := by
  intro n pc lv st h hf
  unfold D_S_refuse at hf
  split at hf
  · rename_i hb
    have hb := Nat.eq_of_beq_eq_true hb
    subst hb
    split at hf
    · rename_i y0 e0 e1
      exact ⟨_, (sub_cons e0 (sub_cons e1 sub_nil)), (E_S_refuse_0 N n _ h).trans hf⟩
    · cases hf
  · skip
    cases hf
theorem hM_S_refuse (N : Nat) {r : Int32 × MH} : ∀ n pc lv st h, D_S_refuse N n pc lv st h = some r → pc < 7 := by
  intro n pc lv st h hf
  unfold D_S_refuse at hf
  split at hf
  · rename_i hb
    rw [Nat.eq_of_beq_eq_true hb]
    decide
  · skip
    cases hf
theorem s_S_refuse {l : Launch} {E : EV} {N : Nat} {as : List MV} {h : MH} {r : Int32 × MH} (hf : w_S_refuse (f_S_refuse N) as h = some r) : SndM l E false 0 146 as h (some (.inl r.1)) r.2 := by
  unfold w_S_refuse at hf
  split at hf
  · obtain ⟨m1, m2, m3, m4⟩ := mx_S_refuse
    refine snd_of (C := C_S_refuse N) (own := 11) (rz := 0) (lim := 115) rI_eq m2 m4 pl_146 (TB_in _ cw_146 rfl) ⟨(fun _ => ⟨_, _, _, _, _, _, rfl, rfl, by rw [m4]; rfl⟩), (fun z => by rw [m3] at z; cases z)⟩ (fun z => by cases z) KDL_take rfl rfl (fun z => by cases z) (fun z => by cases z) (fun _ => rfl) (by rw [m1]; exact Nat.le_of_ble_eq_true rfl)
      (fun _ _ _ _ z => by cases z)
      (fun _ _ _ _ z => by cases z)
      (fun _ _ _ _ z => by cases z)
      (fun _ _ _ _ z => by cases z)
      (fun p e R s m args below meth c Q n0 F hret => ?_)
    rw [m1] at F hret ⊢
    rw [mc_S_refuse] at F hret
    exact cuts_s (K := 400) (M := 7) (D := D_S_refuse N) (B := fun _ _ _ _ _ => none) F hret (chkT_ok chk_S_refuse) (hM_S_refuse N) (fun _ _ _ _ _ z => by cases z) (hD_S_refuse N) N 0 _ _ _ hf
  · cases hf
def T_S_read : List (List (Option RW)) := [
  [some (.aload_n 0, 1, [0], 0, 0), some (.iload_n 1, 1, [1], 0, 0), some (.iload_n 2, 1, [2], 0, 0), some (.invokevirtual 120, 3, [0, 160, 3, 0], 0, 0), none, none, some (.istore_n 3, 1, [3], 0, 0), some (.iload_n 3, 1, [3], 0, 0), some (.ifCond .eq 10, 3, [18], 0, 0), none, none, some (.aload_n 0, 1, [0], 0, 0), some (.iload_n 3, 1, [3], 0, 0), some (.invokevirtual 128, 3, [0, 146, 2, 0], 0, 0), none, none, some (.i2l, 1, [], 0, 0), some (.lreturn, 1, [], 0, 0), some (.aload_n 0, 1, [0], 0, 0), some (.iconst 0, 1, [], 0, 0), some (.putfield 85, 3, [11, 12, 0], 0, 0), none, none, some (.aload_n 0, 1, [0], 0, 0), some (.getfield 11, 3, [11, 0, 2, 5, 4, 1], 0, 0), none, none, some (.iload_n 1, 1, [1], 0, 0), some (.aaload, 1, [], 0, 0), some (.iload_n 2, 1, [2], 0, 0), some (.invokevirtual 132, 3, [1, 87, 2, 1], 0, 0), none],
  [none, some (.lreturn, 1, [], 0, 0)]]
def f_S_read (N : Nat) (a1 : Int32) (a2 : Int32) (h : MH) : Option (Int64 × MH) :=
  (f_S_refusalOfPlace N a1 a2 h).bind (fun x1 =>
  if x1.1 = 0 then
  (let h2 : MH := sI x1.2 1 12 0
  if inB a1 4 = true then
  ((f_Tray_at N (gR h2 2 (iN a1)) a2 h2).bind (fun x3 =>
  some (x3.1, x3.2)))
  else none)
  else
  ((f_S_refuse N x1.1 x1.2).bind (fun x4 =>
  some (x4.1.toInt64, x4.2))))
def C_S_read (N : Nat) : MC := (KDL, false, (fun _ => 0), jsB, (fun j => match Nat.beq j 146 with
    | true => w_S_refuse (f_S_refuse N)
    | false => match Nat.beq j 160 with
    | true => w_S_refusalOfPlace (f_S_refusalOfPlace N)
    | false => fun _ _ => none), (fun j => match Nat.beq j 87 with
    | true => w_Tray_at (f_Tray_at N)
    | false => fun _ _ => none), (fun _ _ _ => none), (fun _ _ _ => none))
def D_S_read (N : Nat) (n pc : Nat) (lv : ML) (st : List MV) (h : MH) : Option (Int64 × MH) :=
  match Nat.beq pc 0 with
  | true => (match lk lv 0, lk lv 1, lk lv 2, st with
    | some (.inr (.inr (0, 11, 1))), some (.inl a1), some (.inl a2), [] => f_S_read N a1 a2 h
    | _, _, _, _ => none)
  | false => none
set_option maxRecDepth 1000000 in
theorem E_S_read_0 (N : Nat) (n : Nat) (a1 : Int32) (a2 : Int32) (h : MH) : seg (C_S_read N) 4 0 rJ T_S_read [0] (fun q lv st h => match Nat.ble 1 q with
    | true => D_S_read N n q lv st h
    | false => none) 400 true 0 [(0, .inr (.inr (0, 11, 1))), (1, .inl a1), (2, .inl a2)] [] h = f_S_read N a1 a2 h := (rfl)
set_option maxRecDepth 1000000 in
theorem chk_S_read : chkT 11 false prog_1_method_7_code T_S_read = true := by decide +kernel
theorem mc_S_read : mC 114 = prog_1_method_7_code := by rfl
theorem mx_S_read : mL 114 = 4 ∧ mR 114 = some .long ∧ mK 114 = 1 ∧ (mN 114).cls = cN 11 := by decide +kernel
theorem hD_S_read (N : Nat) {r : Int64 × MH} : ∀ n pc lv st h, D_S_read N n pc lv st h = some r → ∃ lv', (∀ q ∈ lv', q ∈ lv) ∧ seg (C_S_read N) 4 0 rJ T_S_read [0] (fun q lv st h => match Nat.ble (pc + 1) q with
    | true => D_S_read N n q lv st h
    | false => none) 400 true pc lv' st h = some r := by
  intro n pc lv st h hf
  unfold D_S_read at hf
  split at hf
  · rename_i hb
    have hb := Nat.eq_of_beq_eq_true hb
    subst hb
    split at hf
    · rename_i y0 y1 e0 e1 e2
      exact ⟨_, (sub_cons e0 (sub_cons e1 (sub_cons e2 sub_nil))), (E_S_read_0 N n _ _ h).trans hf⟩
    · cases hf
  · skip
    cases hf
theorem hM_S_read (N : Nat) {r : Int64 × MH} : ∀ n pc lv st h, D_S_read N n pc lv st h = some r → pc < 34 := by
  intro n pc lv st h hf
  unfold D_S_read at hf
  split at hf
  · rename_i hb
    rw [Nat.eq_of_beq_eq_true hb]
    decide
  · skip
    cases hf
theorem s_S_read {l : Launch} {E : EV} {N : Nat} {as : List MV} {h : MH} {r : Int64 × MH} (hf : w_S_read (f_S_read N) as h = some r) : SndM l E false 3 114 as h (some (.inr (.inl r.1))) r.2 := by
  unfold w_S_read at hf
  split at hf
  · obtain ⟨m1, m2, m3, m4⟩ := mx_S_read
    refine snd_of (C := C_S_read N) (own := 11) (rz := 0) (lim := 115) rJ_eq m2 m4 pl_114 (TB_in _ cw_114 rfl) ⟨(fun _ => ⟨_, _, _, _, _, _, rfl, rfl, by rw [m4]; rfl⟩), (fun z => by rw [m3] at z; cases z)⟩ (fun z => by cases z) KDL_take rfl rfl (fun z => by cases z) (fun z => by cases z) (fun _ => rfl) (by rw [m1]; exact Nat.le_of_ble_eq_true rfl)
      (fun j as h x z => by
      dsimp only [C_S_read] at z
      cases hb : Nat.beq j 146 with
      | true =>
        have hb := Nat.eq_of_beq_eq_true hb
        subst hb
        exact ⟨0, by decide, (fun z => by cases z), s_S_refuse z⟩
      | false =>
        rw [hb] at z
        dsimp only at z
        cases hb : Nat.beq j 160 with
        | true =>
          have hb := Nat.eq_of_beq_eq_true hb
          subst hb
          exact ⟨2, by decide, (fun z => by cases z), s_S_refusalOfPlace z⟩
        | false =>
          rw [hb] at z
          dsimp only at z
          cases z)
      (fun j as h x z => by
      dsimp only [C_S_read] at z
      cases hb : Nat.beq j 87 with
      | true =>
        have hb := Nat.eq_of_beq_eq_true hb
        subst hb
        exact ⟨1, by decide, (fun z => by cases z), s_Tray_at z⟩
      | false =>
        rw [hb] at z
        dsimp only at z
        cases z)
      (fun _ _ _ _ z => by cases z)
      (fun _ _ _ _ z => by cases z)
      (fun p e R s m args below meth c Q n0 F hret => ?_)
    rw [m1] at F hret ⊢
    rw [mc_S_read] at F hret
    exact cuts_s (K := 400) (M := 34) (D := D_S_read N) (B := fun _ _ _ _ _ => none) F hret (chkT_ok chk_S_read) (hM_S_read N) (fun _ _ _ _ _ z => by cases z) (hD_S_read N) N 0 _ _ _ hf
  · cases hf
def T_S_pour : List (List (Option RW)) := [
  [some (.iload_n 1, 1, [1], 0, 0), some (.invokestatic 105, 3, [2, 152, 1, 0], 0, 0), none, none, some (.ifCond .eq 24, 3, [28], 0, 0), none, none, some (.iload_n 3, 1, [3], 0, 0), some (.invokestatic 105, 3, [2, 152, 1, 0], 0, 0), none, none, some (.ifCond .eq 17, 3, [28], 0, 0), none, none, some (.iload_n 2, 1, [2], 0, 0), some (.ifCond .lt 13, 3, [28], 0, 0), none, none, some (.iload 4, 2, [4], 0, 0), none, some (.ifCond .lt 8, 3, [28], 0, 0), none, none, some (.iload 5, 2, [5], 0, 0), none, some (.ifCond .ge 9, 3, [34], 0, 0), none, none, some (.aload_n 0, 1, [0], 0, 0), some (.iconst 1, 1, [], 1, 0), some (.invokevirtual 109, 3, [0, 147, 2, 0], 0, 0), none],
  [none, some (.ireturn, 1, [], 0, 0), some (.aload_n 0, 1, [0], 0, 0), some (.getfield 11, 3, [11, 0, 2, 5, 4, 1], 0, 0), none, none, some (.iload_n 1, 1, [1], 0, 0), some (.aaload, 1, [], 0, 0), some (.astore 6, 2, [6], 0, 0), none, some (.aload_n 0, 1, [0], 0, 0), some (.getfield 11, 3, [11, 0, 2, 5, 4, 1], 0, 0), none, none, some (.iload_n 3, 1, [3], 0, 0), some (.aaload, 1, [], 0, 0), some (.astore 7, 2, [7], 0, 0), none, some (.aload 6, 2, [6], 0, 0), none, some (.invokevirtual 136, 3, [1, 84, 1, 0], 0, 0), none, none, some (.ifCond .ne 11, 3, [66], 0, 0), none, none, some (.aload 7, 2, [7], 0, 0), none, some (.invokevirtual 136, 3, [1, 84, 1, 0], 0, 0), none, none, some (.ifCond .eq 9, 3, [72], 0, 0)],
  [none, none, some (.aload_n 0, 1, [0], 0, 0), some (.iconst 2, 1, [], 2, 0), some (.invokevirtual 109, 3, [0, 147, 2, 0], 0, 0), none, none, some (.ireturn, 1, [], 0, 0), some (.aload 6, 2, [6], 0, 0), none, some (.getfield 139, 3, [9, 1, 0], 0, 0), none, none, some (.aload 7, 2, [7], 0, 0), none, some (.getfield 139, 3, [9, 1, 0], 0, 0), none, none, some (.if_icmp .eq 10, 3, [92], 0, 0), none, none, some (.aload_n 0, 1, [0], 0, 0), some (.bipush 8, 2, [], 8, 0), none, some (.invokevirtual 109, 3, [0, 147, 2, 0], 0, 0), none, none, some (.ireturn, 1, [], 0, 0), some (.aload 6, 2, [6], 0, 0), none, some (.iload_n 2, 1, [2], 0, 0), some (.iload 5, 2, [5], 0, 0)],
  [none, some (.invokevirtual 142, 3, [1, 86, 3, 0], 0, 0), none, none, some (.ifCond .eq 15, 3, [115], 0, 0), none, none, some (.aload 7, 2, [7], 0, 0), none, some (.iload 4, 2, [4], 0, 0), none, some (.iload 5, 2, [5], 0, 0), none, some (.invokevirtual 142, 3, [1, 86, 3, 0], 0, 0), none, none, some (.ifCond .ne 9, 3, [121], 0, 0), none, none, some (.aload_n 0, 1, [0], 0, 0), some (.iconst 3, 1, [], 3, 0), some (.invokevirtual 109, 3, [0, 147, 2, 0], 0, 0), none, none, some (.ireturn, 1, [], 0, 0), some (.aload 6, 2, [6], 0, 0), none, some (.getfield 146, 3, [9, 0, 2, 2, 60, 1], 0, 0), none, none, some (.iload_n 2, 1, [2], 0, 0), some (.aload 7, 2, [7], 0, 0)],
  [none, some (.getfield 146, 3, [9, 0, 2, 2, 60, 1], 0, 0), none, none, some (.iload 4, 2, [4], 0, 0), none, some (.iload 5, 2, [5], 0, 0), none, some (.invokestatic 150, 3, [9], 0, 0), none, none, some (.aload_n 0, 1, [0], 0, 0), some (.invokevirtual 116, 3, [0, 145, 1, 0], 0, 0), none, none, some (.ireturn, 1, [], 0, 0)]]
def f_S_pour (N : Nat) (a1 : Int32) (a2 : Int32) (a3 : Int32) (a4 : Int32) (a5 : Int32) (h : MH) : Option (Int32 × MH) :=
  (f_S_isTray N a1 h).bind (fun x1 =>
  if x1.1 = 0 then
  ((f_S_deny N 1 x1.2).bind (fun x2 =>
  match narOK 1 x2.1 with
  | true => some (x2.1, x2.2)
  | false => none))
  else
  ((f_S_isTray N a3 x1.2).bind (fun x3 =>
  if x3.1 = 0 then
  ((f_S_deny N 1 x3.2).bind (fun x4 =>
  match narOK 1 x4.1 with
  | true => some (x4.1, x4.2)
  | false => none))
  else
  (if a2 < 0 then
  ((f_S_deny N 1 x3.2).bind (fun x5 =>
  match narOK 1 x5.1 with
  | true => some (x5.1, x5.2)
  | false => none))
  else
  (if a4 < 0 then
  ((f_S_deny N 1 x3.2).bind (fun x6 =>
  match narOK 1 x6.1 with
  | true => some (x6.1, x6.2)
  | false => none))
  else
  (if 0 ≤ a5 then
  (if inB a1 4 = true then
  (if inB a3 4 = true then
  ((f_Tray_isMissing N (gR x3.2 2 (iN a1)) x3.2).bind (fun x7 =>
  if x7.1 = 0 then
  ((f_Tray_isMissing N (gR x3.2 2 (iN a3)) x7.2).bind (fun x8 =>
  if x8.1 = 0 then
  (if (gI x8.2 (gR x3.2 2 (iN a1)) 1) = (gI x8.2 (gR x3.2 2 (iN a3)) 1) then
  ((f_Tray_reaches N (gR x3.2 2 (iN a1)) a2 a5 x8.2).bind (fun x9 =>
  if x9.1 = 0 then
  ((f_S_deny N 3 x9.2).bind (fun x10 =>
  match narOK 1 x10.1 with
  | true => some (x10.1, x10.2)
  | false => none))
  else
  ((f_Tray_reaches N (gR x3.2 2 (iN a3)) a4 a5 x9.2).bind (fun x11 =>
  if x11.1 = 0 then
  ((f_S_deny N 3 x11.2).bind (fun x12 =>
  match narOK 1 x12.1 with
  | true => some (x12.1, x12.2)
  | false => none))
  else
  (if 0 ≤ a5 ∧ 0 ≤ a2 ∧ 0 ≤ a4 ∧ iN a2 + iN a5 ≤ 60 ∧ iN a4 + iN a5 ≤ 60 then
  (let h13 : MH := cJ x11.2 ((gR x3.2 2 (iN a1)) + 1) ((gR x3.2 2 (iN a3)) + 1) (iN a2) (iN a4) (iN a5)
  (f_S_allow N h13).bind (fun x14 =>
  match narOK 1 x14.1 with
  | true => some (x14.1, x14.2)
  | false => none))
  else none)))))
  else
  ((f_S_deny N 8 x8.2).bind (fun x15 =>
  match narOK 1 x15.1 with
  | true => some (x15.1, x15.2)
  | false => none)))
  else
  ((f_S_deny N 2 x8.2).bind (fun x16 =>
  match narOK 1 x16.1 with
  | true => some (x16.1, x16.2)
  | false => none))))
  else
  ((f_S_deny N 2 x7.2).bind (fun x17 =>
  match narOK 1 x17.1 with
  | true => some (x17.1, x17.2)
  | false => none))))
  else none)
  else none)
  else
  ((f_S_deny N 1 x3.2).bind (fun x18 =>
  match narOK 1 x18.1 with
  | true => some (x18.1, x18.2)
  | false => none))))))))
def C_S_pour (N : Nat) : MC := (KDL, false, (fun _ => 0), jsB, (fun j => match Nat.beq j 84 with
    | true => w_Tray_isMissing (f_Tray_isMissing N)
    | false => match Nat.beq j 86 with
    | true => w_Tray_reaches (f_Tray_reaches N)
    | false => match Nat.beq j 145 with
    | true => w_S_allow (f_S_allow N)
    | false => match Nat.beq j 147 with
    | true => w_S_deny (f_S_deny N)
    | false => match Nat.beq j 152 with
    | true => w_S_isTray (f_S_isTray N)
    | false => fun _ _ => none), (fun _ _ _ => none), (fun _ _ _ => none), (fun _ _ _ => none))
def D_S_pour (N : Nat) (n pc : Nat) (lv : ML) (st : List MV) (h : MH) : Option (Int32 × MH) :=
  match Nat.beq pc 0 with
  | true => (match lk lv 0, lk lv 1, lk lv 2, lk lv 3, lk lv 4, lk lv 5, st with
    | some (.inr (.inr (0, 11, 1))), some (.inl a1), some (.inl a2), some (.inl a3), some (.inl a4), some (.inl a5), [] => f_S_pour N a1 a2 a3 a4 a5 h
    | _, _, _, _, _, _, _ => none)
  | false => none
set_option maxRecDepth 1000000 in
theorem E_S_pour_0 (N : Nat) (n : Nat) (a1 : Int32) (a2 : Int32) (a3 : Int32) (a4 : Int32) (a5 : Int32) (h : MH) : seg (C_S_pour N) 8 1 rI T_S_pour [0] (fun q lv st h => match Nat.ble 1 q with
    | true => D_S_pour N n q lv st h
    | false => none) 400 true 0 [(0, .inr (.inr (0, 11, 1))), (1, .inl a1), (2, .inl a2), (3, .inl a3), (4, .inl a4), (5, .inl a5)] [] h = f_S_pour N a1 a2 a3 a4 a5 h := (rfl)
set_option maxRecDepth 1000000 in
theorem chk_S_pour : chkT 11 false prog_1_method_8_code T_S_pour = true := by decide +kernel
theorem mc_S_pour : mC 115 = prog_1_method_8_code := by rfl
theorem mx_S_pour : mL 115 = 8 ∧ mR 115 = some .boolean ∧ mK 115 = 1 ∧ (mN 115).cls = cN 11 := by decide +kernel
theorem hD_S_pour (N : Nat) {r : Int32 × MH} : ∀ n pc lv st h, D_S_pour N n pc lv st h = some r → ∃ lv', (∀ q ∈ lv', q ∈ lv) ∧ seg (C_S_pour N) 8 1 rI T_S_pour [0] (fun q lv st h => match Nat.ble (pc + 1) q with
    | true => D_S_pour N n q lv st h
    | false => none) 400 true pc lv' st h = some r := by
  intro n pc lv st h hf
  unfold D_S_pour at hf
  split at hf
  · rename_i hb
    have hb := Nat.eq_of_beq_eq_true hb
    subst hb
    split at hf
    · rename_i y0 y1 y2 y3 y4 e0 e1 e2 e3 e4 e5
      exact ⟨_, (sub_cons e0 (sub_cons e1 (sub_cons e2 (sub_cons e3 (sub_cons e4 (sub_cons e5 sub_nil)))))), (E_S_pour_0 N n _ _ _ _ _ h).trans hf⟩
    · cases hf
  · skip
    cases hf
theorem hM_S_pour (N : Nat) {r : Int32 × MH} : ∀ n pc lv st h, D_S_pour N n pc lv st h = some r → pc < 144 := by
  intro n pc lv st h hf
  unfold D_S_pour at hf
  split at hf
  · rename_i hb
    rw [Nat.eq_of_beq_eq_true hb]
    decide
  · skip
    cases hf
theorem s_S_pour {l : Launch} {E : EV} {N : Nat} {as : List MV} {h : MH} {r : Int32 × MH} (hf : w_S_pour (f_S_pour N) as h = some r) : SndM l E false 2 115 as h (some (.inl r.1)) r.2 := by
  unfold w_S_pour at hf
  split at hf
  · obtain ⟨m1, m2, m3, m4⟩ := mx_S_pour
    refine snd_of (C := C_S_pour N) (own := 11) (rz := 1) (lim := 115) rI_eq m2 m4 pl_115 (TB_in _ cw_115 rfl) ⟨(fun _ => ⟨_, _, _, _, _, _, rfl, rfl, by rw [m4]; rfl⟩), (fun z => by rw [m3] at z; cases z)⟩ (fun z => by cases z) KDL_take rfl rfl (fun z => by cases z) (fun z => by cases z) (fun _ => rfl) (by rw [m1]; exact Nat.le_of_ble_eq_true rfl)
      (fun j as h x z => by
      dsimp only [C_S_pour] at z
      cases hb : Nat.beq j 84 with
      | true =>
        have hb := Nat.eq_of_beq_eq_true hb
        subst hb
        exact ⟨0, by decide, (fun z => by cases z), s_Tray_isMissing z⟩
      | false =>
        rw [hb] at z
        dsimp only at z
        cases hb : Nat.beq j 86 with
        | true =>
          have hb := Nat.eq_of_beq_eq_true hb
          subst hb
          exact ⟨0, by decide, (fun z => by cases z), s_Tray_reaches z⟩
        | false =>
          rw [hb] at z
          dsimp only at z
          cases hb : Nat.beq j 145 with
          | true =>
            have hb := Nat.eq_of_beq_eq_true hb
            subst hb
            exact ⟨0, by decide, (fun z => by cases z), s_S_allow z⟩
          | false =>
            rw [hb] at z
            dsimp only at z
            cases hb : Nat.beq j 147 with
            | true =>
              have hb := Nat.eq_of_beq_eq_true hb
              subst hb
              exact ⟨0, by decide, (fun z => by cases z), s_S_deny z⟩
            | false =>
              rw [hb] at z
              dsimp only at z
              cases hb : Nat.beq j 152 with
              | true =>
                have hb := Nat.eq_of_beq_eq_true hb
                subst hb
                exact ⟨1, by decide, (fun z => by cases z), s_S_isTray z⟩
              | false =>
                rw [hb] at z
                dsimp only at z
                cases z)
      (fun _ _ _ _ z => by cases z)
      (fun _ _ _ _ z => by cases z)
      (fun _ _ _ _ z => by cases z)
      (fun p e R s m args below meth c Q n0 F hret => ?_)
    rw [m1] at F hret ⊢
    rw [mc_S_pour] at F hret
    exact cuts_s (K := 400) (M := 144) (D := D_S_pour N) (B := fun _ _ _ _ _ => none) F hret (chkT_ok chk_S_pour) (hM_S_pour N) (fun _ _ _ _ _ z => by cases z) (hD_S_pour N) N 0 _ _ _ hf
  · cases hf
def T_S_feed : List (List (Option RW)) := [
  [some (.aload_n 0, 1, [0], 0, 0), some (.getfield 18, 3, [11, 1, 2, 0, 7, 2], 0, 0), none, none, some (.invokevirtual 156, 3, [1, 52, 1, 0], 0, 0), none, none, some (.ifCond .ne 5, 3, [12], 0, 0), none, none, some (.iconst (-1), 1, [], (-1), 0), some (.ireturn, 1, [], 0, 0), some (.aload_n 0, 1, [0], 0, 0), some (.getfield 18, 3, [11, 1, 2, 0, 7, 2], 0, 0), none, none, some (.iload_n 1, 1, [1], 0, 0), some (.invokevirtual 159, 3, [1, 53, 2, 3], 0, 0), none, none, some (.aload_n 0, 1, [0], 0, 0), some (.getfield 18, 3, [11, 1, 2, 0, 7, 2], 0, 0), none, none, some (.iload_n 2, 1, [2], 0, 0), some (.invokevirtual 159, 3, [1, 53, 2, 3], 0, 0), none, none, some (.aload_n 0, 1, [0], 0, 0), some (.getfield 18, 3, [11, 1, 2, 0, 7, 2], 0, 0), none, none],
  [some (.iload_n 3, 1, [3], 0, 0), some (.invokevirtual 159, 3, [1, 53, 2, 3], 0, 0), none, none, some (.aload_n 0, 1, [0], 0, 0), some (.getfield 18, 3, [11, 1, 2, 0, 7, 2], 0, 0), none, none, some (.iload 4, 2, [4], 0, 0), none, some (.invokevirtual 159, 3, [1, 53, 2, 3], 0, 0), none, none, some (.aload_n 0, 1, [0], 0, 0), some (.getfield 18, 3, [11, 1, 2, 0, 7, 2], 0, 0), none, none, some (.iload 5, 2, [5], 0, 0), none, some (.invokevirtual 159, 3, [1, 53, 2, 3], 0, 0), none, none, some (.aload_n 0, 1, [0], 0, 0), some (.getfield 18, 3, [11, 1, 2, 0, 7, 2], 0, 0), none, none, some (.getfield 163, 3, [7, 1, 0], 0, 0), none, none, some (.ireturn, 1, [], 0, 0)]]
def f_S_feed (N : Nat) (a1 : Int32) (a2 : Int32) (a3 : Int32) (a4 : Int32) (a5 : Int32) (h : MH) : Option (Int32 × MH) :=
  (f_Reader_hasRoom N h).bind (fun x1 =>
  if x1.1 = 0 then
  (some ((-1), x1.2))
  else
  ((f_Reader_append N a1 x1.2).bind (fun x2 =>
  (f_Reader_append N a2 x2).bind (fun x3 =>
  (f_Reader_append N a3 x3).bind (fun x4 =>
  (f_Reader_append N a4 x4).bind (fun x5 =>
  (f_Reader_append N a5 x5).bind (fun x6 =>
  some (gI x6 3 1, x6))))))))
def C_S_feed (N : Nat) : MC := (KDL, false, (fun _ => 0), jsB, (fun j => match Nat.beq j 52 with
    | true => w_Reader_hasRoom (f_Reader_hasRoom N)
    | false => fun _ _ => none), (fun _ _ _ => none), (fun _ _ _ => none), (fun j => match Nat.beq j 53 with
    | true => w_Reader_append (f_Reader_append N)
    | false => fun _ _ => none))
def D_S_feed (N : Nat) (n pc : Nat) (lv : ML) (st : List MV) (h : MH) : Option (Int32 × MH) :=
  match Nat.beq pc 0 with
  | true => (match lk lv 0, lk lv 1, lk lv 2, lk lv 3, lk lv 4, lk lv 5, st with
    | some (.inr (.inr (0, 11, 1))), some (.inl a1), some (.inl a2), some (.inl a3), some (.inl a4), some (.inl a5), [] => f_S_feed N a1 a2 a3 a4 a5 h
    | _, _, _, _, _, _, _ => none)
  | false => none
set_option maxRecDepth 1000000 in
theorem E_S_feed_0 (N : Nat) (n : Nat) (a1 : Int32) (a2 : Int32) (a3 : Int32) (a4 : Int32) (a5 : Int32) (h : MH) : seg (C_S_feed N) 6 0 rI T_S_feed [0] (fun q lv st h => match Nat.ble 1 q with
    | true => D_S_feed N n q lv st h
    | false => none) 400 true 0 [(0, .inr (.inr (0, 11, 1))), (1, .inl a1), (2, .inl a2), (3, .inl a3), (4, .inl a4), (5, .inl a5)] [] h = f_S_feed N a1 a2 a3 a4 a5 h := (rfl)
set_option maxRecDepth 1000000 in
theorem chk_S_feed : chkT 11 false prog_1_method_9_code T_S_feed = true := by decide +kernel
theorem mc_S_feed : mC 116 = prog_1_method_9_code := by rfl
theorem mx_S_feed : mL 116 = 6 ∧ mR 116 = some .int ∧ mK 116 = 1 ∧ (mN 116).cls = cN 11 := by decide +kernel
theorem hD_S_feed (N : Nat) {r : Int32 × MH} : ∀ n pc lv st h, D_S_feed N n pc lv st h = some r → ∃ lv', (∀ q ∈ lv', q ∈ lv) ∧ seg (C_S_feed N) 6 0 rI T_S_feed [0] (fun q lv st h => match Nat.ble (pc + 1) q with
    | true => D_S_feed N n q lv st h
    | false => none) 400 true pc lv' st h = some r := by
  intro n pc lv st h hf
  unfold D_S_feed at hf
  split at hf
  · rename_i hb
    have hb := Nat.eq_of_beq_eq_true hb
    subst hb
    split at hf
    · rename_i y0 y1 y2 y3 y4 e0 e1 e2 e3 e4 e5
      exact ⟨_, (sub_cons e0 (sub_cons e1 (sub_cons e2 (sub_cons e3 (sub_cons e4 (sub_cons e5 sub_nil)))))), (E_S_feed_0 N n _ _ _ _ _ h).trans hf⟩
    · cases hf
  · skip
    cases hf
theorem hM_S_feed (N : Nat) {r : Int32 × MH} : ∀ n pc lv st h, D_S_feed N n pc lv st h = some r → pc < 62 := by
  intro n pc lv st h hf
  unfold D_S_feed at hf
  split at hf
  · rename_i hb
    rw [Nat.eq_of_beq_eq_true hb]
    decide
  · skip
    cases hf
theorem s_S_feed {l : Launch} {E : EV} {N : Nat} {as : List MV} {h : MH} {r : Int32 × MH} (hf : w_S_feed (f_S_feed N) as h = some r) : SndM l E false 1 116 as h (some (.inl r.1)) r.2 := by
  unfold w_S_feed at hf
  split at hf
  · obtain ⟨m1, m2, m3, m4⟩ := mx_S_feed
    refine snd_of (C := C_S_feed N) (own := 11) (rz := 0) (lim := 115) rI_eq m2 m4 pl_116 (TB_in _ cw_116 rfl) ⟨(fun _ => ⟨_, _, _, _, _, _, rfl, rfl, by rw [m4]; rfl⟩), (fun z => by rw [m3] at z; cases z)⟩ (fun z => by cases z) KDL_take rfl rfl (fun z => by cases z) (fun z => by cases z) (fun _ => rfl) (by rw [m1]; exact Nat.le_of_ble_eq_true rfl)
      (fun j as h x z => by
      dsimp only [C_S_feed] at z
      cases hb : Nat.beq j 52 with
      | true =>
        have hb := Nat.eq_of_beq_eq_true hb
        subst hb
        exact ⟨0, by decide, (fun z => by cases z), s_Reader_hasRoom z⟩
      | false =>
        rw [hb] at z
        dsimp only at z
        cases z)
      (fun _ _ _ _ z => by cases z)
      (fun _ _ _ _ z => by cases z)
      (fun j as h x z => by
      dsimp only [C_S_feed] at z
      cases hb : Nat.beq j 53 with
      | true =>
        have hb := Nat.eq_of_beq_eq_true hb
        subst hb
        exact ⟨0, by decide, (fun z => by cases z), s_Reader_append z⟩
      | false =>
        rw [hb] at z
        dsimp only at z
        cases z)
      (fun p e R s m args below meth c Q n0 F hret => ?_)
    rw [m1] at F hret ⊢
    rw [mc_S_feed] at F hret
    exact cuts_s (K := 400) (M := 62) (D := D_S_feed N) (B := fun _ _ _ _ _ => none) F hret (chkT_ok chk_S_feed) (hM_S_feed N) (fun _ _ _ _ _ z => by cases z) (hD_S_feed N) N 0 _ _ _ hf
  · cases hf
def T_S_answer : List (List (Option RW)) := [
  [some (.aload_n 0, 1, [0], 0, 0), some (.iconst 0, 1, [], 0, 0), some (.putfield 85, 3, [11, 12, 0], 0, 0), none, none, some (.iload_n 1, 1, [1], 0, 0), some (.ireturn, 1, [], 0, 0)]]
def f_S_answer (N : Nat) (a1 : Int32) (h : MH) : Option (Int32 × MH) :=
  let h1 : MH := sI h 1 12 0
  some (a1, h1)
def C_S_answer (N : Nat) : MC := (KDL, false, (fun _ => 0), jsB, (fun _ _ _ => none), (fun _ _ _ => none), (fun _ _ _ => none), (fun _ _ _ => none))
def D_S_answer (N : Nat) (n pc : Nat) (lv : ML) (st : List MV) (h : MH) : Option (Int32 × MH) :=
  match Nat.beq pc 0 with
  | true => (match lk lv 0, lk lv 1, st with
    | some (.inr (.inr (0, 11, 1))), some (.inl a1), [] => f_S_answer N a1 h
    | _, _, _ => none)
  | false => none
set_option maxRecDepth 1000000 in
theorem E_S_answer_0 (N : Nat) (n : Nat) (a1 : Int32) (h : MH) : seg (C_S_answer N) 2 0 rI T_S_answer [0] (fun q lv st h => match Nat.ble 1 q with
    | true => D_S_answer N n q lv st h
    | false => none) 400 true 0 [(0, .inr (.inr (0, 11, 1))), (1, .inl a1)] [] h = f_S_answer N a1 h := (rfl)
set_option maxRecDepth 1000000 in
theorem chk_S_answer : chkT 11 false prog_1_method_37_code T_S_answer = true := by decide +kernel
theorem mc_S_answer : mC 144 = prog_1_method_37_code := by rfl
theorem mx_S_answer : mL 144 = 2 ∧ mR 144 = some .int ∧ mK 144 = 1 ∧ (mN 144).cls = cN 11 := by decide +kernel
theorem hD_S_answer (N : Nat) {r : Int32 × MH} : ∀ n pc lv st h, D_S_answer N n pc lv st h = some r → ∃ lv', (∀ q ∈ lv', q ∈ lv) ∧ seg (C_S_answer N) 2 0 rI T_S_answer [0] (fun q lv st h => match Nat.ble (pc + 1) q with
    | true => D_S_answer N n q lv st h
    | false => none) 400 true pc lv' st h = some r := by
  intro n pc lv st h hf
  unfold D_S_answer at hf
  split at hf
  · rename_i hb
    have hb := Nat.eq_of_beq_eq_true hb
    subst hb
    split at hf
    · rename_i y0 e0 e1
      exact ⟨_, (sub_cons e0 (sub_cons e1 sub_nil)), (E_S_answer_0 N n _ h).trans hf⟩
    · cases hf
  · skip
    cases hf
theorem hM_S_answer (N : Nat) {r : Int32 × MH} : ∀ n pc lv st h, D_S_answer N n pc lv st h = some r → pc < 7 := by
  intro n pc lv st h hf
  unfold D_S_answer at hf
  split at hf
  · rename_i hb
    rw [Nat.eq_of_beq_eq_true hb]
    decide
  · skip
    cases hf
theorem s_S_answer {l : Launch} {E : EV} {N : Nat} {as : List MV} {h : MH} {r : Int32 × MH} (hf : w_S_answer (f_S_answer N) as h = some r) : SndM l E false 0 144 as h (some (.inl r.1)) r.2 := by
  unfold w_S_answer at hf
  split at hf
  · obtain ⟨m1, m2, m3, m4⟩ := mx_S_answer
    refine snd_of (C := C_S_answer N) (own := 11) (rz := 0) (lim := 115) rI_eq m2 m4 pl_144 (TB_in _ cw_144 rfl) ⟨(fun _ => ⟨_, _, _, _, _, _, rfl, rfl, by rw [m4]; rfl⟩), (fun z => by rw [m3] at z; cases z)⟩ (fun z => by cases z) KDL_take rfl rfl (fun z => by cases z) (fun z => by cases z) (fun _ => rfl) (by rw [m1]; exact Nat.le_of_ble_eq_true rfl)
      (fun _ _ _ _ z => by cases z)
      (fun _ _ _ _ z => by cases z)
      (fun _ _ _ _ z => by cases z)
      (fun _ _ _ _ z => by cases z)
      (fun p e R s m args below meth c Q n0 F hret => ?_)
    rw [m1] at F hret ⊢
    rw [mc_S_answer] at F hret
    exact cuts_s (K := 400) (M := 7) (D := D_S_answer N) (B := fun _ _ _ _ _ => none) F hret (chkT_ok chk_S_answer) (hM_S_answer N) (fun _ _ _ _ _ z => by cases z) (hD_S_answer N) N 0 _ _ _ hf
  · cases hf
def T_S_land : List (List (Option RW)) := [
  [some (.iload_n 1, 1, [1], 0, 0), some (.ifCond .lt 14, 3, [15], 0, 0), none, none, some (.iload_n 1, 1, [1], 0, 0), some (.aload_n 0, 1, [0], 0, 0), some (.getfield 18, 3, [11, 1, 2, 0, 7, 2], 0, 0), none, none, some (.getfield 163, 3, [7, 1, 0], 0, 0), none, none, some (.if_icmp .le 9, 3, [21], 0, 0), none, none, some (.aload_n 0, 1, [0], 0, 0), some (.iconst 1, 1, [], 1, 0), some (.invokevirtual 128, 3, [0, 146, 2, 0], 0, 0), none, none, some (.ireturn, 1, [], 0, 0), some (.aload_n 0, 1, [0], 0, 0), some (.getfield 18, 3, [11, 1, 2, 0, 7, 2], 0, 0), none, none, some (.iload_n 1, 1, [1], 0, 0), some (.invokevirtual 166, 3, [1, 55, 2, 0], 0, 0), none, none, some (.istore_n 2, 1, [2], 0, 0), some (.aload_n 0, 1, [0], 0, 0), some (.aload_n 0, 1, [0], 0, 0)],
  [some (.getfield 18, 3, [11, 1, 2, 0, 7, 2], 0, 0), none, none, some (.getfield 169, 3, [7, 7, 0], 0, 0), none, none, some (.putfield 89, 3, [11, 13, 0], 0, 0), none, none, some (.aload_n 0, 1, [0], 0, 0), some (.aload_n 0, 1, [0], 0, 0), some (.getfield 18, 3, [11, 1, 2, 0, 7, 2], 0, 0), none, none, some (.getfield 172, 3, [7, 8, 0], 0, 0), none, none, some (.putfield 92, 3, [11, 14, 0], 0, 0), none, none, some (.aload_n 0, 1, [0], 0, 0), some (.getfield 89, 3, [11, 13, 0], 0, 0), none, none, some (.ifCond .eq 10, 3, [66], 0, 0), none, none, some (.aload_n 0, 1, [0], 0, 0), some (.bipush 9, 2, [], 9, 0), none, some (.invokevirtual 128, 3, [0, 146, 2, 0], 0, 0), none],
  [none, some (.ireturn, 1, [], 0, 0), some (.aload_n 0, 1, [0], 0, 0), some (.aload_n 0, 1, [0], 0, 0), some (.getfield 18, 3, [11, 1, 2, 0, 7, 2], 0, 0), none, none, some (.aload_n 0, 1, [0], 0, 0), some (.getfield 81, 3, [11, 11, 3, 0, 2], 0, 0), none, none, some (.invokevirtual 175, 3, [1, 54, 2, 2, 0, 2], 0, 0), none, none, some (.putfield 81, 3, [11, 11, 3, 0, 2], 0, 0), none, none, some (.aload_n 0, 1, [0], 0, 0), some (.getfield 25, 3, [11, 2, 2, 0, 3, 15], 0, 0), none, none, some (.invokevirtual 179, 3, [1, 18, 1, 3], 0, 0), none, none, some (.aload_n 0, 1, [0], 0, 0), some (.getfield 39, 3, [11, 4, 2, 0, 8, 28], 0, 0), none, none, some (.invokevirtual 182, 3, [1, 80, 1, 3], 0, 0), none, none, some (.aload_n 0, 1, [0], 0, 0)],
  [some (.iload_n 2, 1, [2], 0, 0), some (.invokevirtual 183, 3, [0, 144, 2, 0], 0, 0), none, none, some (.ireturn, 1, [], 0, 0)]]
def f_S_land (N : Nat) (a1 : Int32) (h : MH) : Option (Int32 × MH) :=
  if a1 < 0 then
  ((f_S_refuse N 1 h).bind (fun x1 =>
  some (x1.1, x1.2)))
  else
  (if a1 ≤ (gI h 3 1) then
  ((f_Reader_readParts N a1 h).bind (fun x2 =>
  let h3 : MH := sI x2.2 1 13 (gI x2.2 3 7)
  let h4 : MH := sI h3 1 14 (gI h3 3 8)
  if (gI h4 1 13) = 0 then
  ((f_Reader_trade N (gR h4 1 11) h4).bind (fun x5 =>
  let h6 : MH := sR x5.2 1 11 x5.1
  (f_Ledger_clear N h6).bind (fun x7 =>
  (f_Shakes_clear N x7).bind (fun x8 =>
  (f_S_answer N x2.1 x8).bind (fun x9 =>
  some (x9.1, x9.2))))))
  else
  ((f_S_refuse N 9 h4).bind (fun x10 =>
  some (x10.1, x10.2)))))
  else
  ((f_S_refuse N 1 h).bind (fun x11 =>
  some (x11.1, x11.2))))
def C_S_land (N : Nat) : MC := (KDL, false, (fun _ => 0), jsB, (fun j => match Nat.beq j 55 with
    | true => w_Reader_readParts (f_Reader_readParts N)
    | false => match Nat.beq j 144 with
    | true => w_S_answer (f_S_answer N)
    | false => match Nat.beq j 146 with
    | true => w_S_refuse (f_S_refuse N)
    | false => fun _ _ => none), (fun _ _ _ => none), (fun j => match Nat.beq j 54 with
    | true => w_Reader_trade (f_Reader_trade N)
    | false => fun _ _ => none), (fun j => match Nat.beq j 18 with
    | true => w_Ledger_clear (f_Ledger_clear N)
    | false => match Nat.beq j 80 with
    | true => w_Shakes_clear (f_Shakes_clear N)
    | false => fun _ _ => none))
def D_S_land (N : Nat) (n pc : Nat) (lv : ML) (st : List MV) (h : MH) : Option (Int32 × MH) :=
  match Nat.beq pc 0 with
  | true => (match lk lv 0, lk lv 1, st with
    | some (.inr (.inr (0, 11, 1))), some (.inl a1), [] => f_S_land N a1 h
    | _, _, _ => none)
  | false => none
set_option maxRecDepth 1000000 in
theorem E_S_land_0 (N : Nat) (n : Nat) (a1 : Int32) (h : MH) : seg (C_S_land N) 3 0 rI T_S_land [0] (fun q lv st h => match Nat.ble 1 q with
    | true => D_S_land N n q lv st h
    | false => none) 400 true 0 [(0, .inr (.inr (0, 11, 1))), (1, .inl a1)] [] h = f_S_land N a1 h := (rfl)
set_option maxRecDepth 1000000 in
theorem chk_S_land : chkT 11 false prog_1_method_10_code T_S_land = true := by decide +kernel
theorem mc_S_land : mC 117 = prog_1_method_10_code := by rfl
theorem mx_S_land : mL 117 = 3 ∧ mR 117 = some .int ∧ mK 117 = 1 ∧ (mN 117).cls = cN 11 := by decide +kernel
theorem hD_S_land (N : Nat) {r : Int32 × MH} : ∀ n pc lv st h, D_S_land N n pc lv st h = some r → ∃ lv', (∀ q ∈ lv', q ∈ lv) ∧ seg (C_S_land N) 3 0 rI T_S_land [0] (fun q lv st h => match Nat.ble (pc + 1) q with
    | true => D_S_land N n q lv st h
    | false => none) 400 true pc lv' st h = some r := by
  intro n pc lv st h hf
  unfold D_S_land at hf
  split at hf
  · rename_i hb
    have hb := Nat.eq_of_beq_eq_true hb
    subst hb
    split at hf
    · rename_i y0 e0 e1
      exact ⟨_, (sub_cons e0 (sub_cons e1 sub_nil)), (E_S_land_0 N n _ h).trans hf⟩
    · cases hf
  · skip
    cases hf
theorem hM_S_land (N : Nat) {r : Int32 × MH} : ∀ n pc lv st h, D_S_land N n pc lv st h = some r → pc < 101 := by
  intro n pc lv st h hf
  unfold D_S_land at hf
  split at hf
  · rename_i hb
    rw [Nat.eq_of_beq_eq_true hb]
    decide
  · skip
    cases hf
theorem s_S_land {l : Launch} {E : EV} {N : Nat} {as : List MV} {h : MH} {r : Int32 × MH} (hf : w_S_land (f_S_land N) as h = some r) : SndM l E false 33 117 as h (some (.inl r.1)) r.2 := by
  unfold w_S_land at hf
  split at hf
  · obtain ⟨m1, m2, m3, m4⟩ := mx_S_land
    refine snd_of (C := C_S_land N) (own := 11) (rz := 0) (lim := 115) rI_eq m2 m4 pl_117 (TB_in _ cw_117 rfl) ⟨(fun _ => ⟨_, _, _, _, _, _, rfl, rfl, by rw [m4]; rfl⟩), (fun z => by rw [m3] at z; cases z)⟩ (fun z => by cases z) KDL_take rfl rfl (fun z => by cases z) (fun z => by cases z) (fun _ => rfl) (by rw [m1]; exact Nat.le_of_ble_eq_true rfl)
      (fun j as h x z => by
      dsimp only [C_S_land] at z
      cases hb : Nat.beq j 55 with
      | true =>
        have hb := Nat.eq_of_beq_eq_true hb
        subst hb
        exact ⟨32, by decide, (fun z => by cases z), s_Reader_readParts z⟩
      | false =>
        rw [hb] at z
        dsimp only at z
        cases hb : Nat.beq j 144 with
        | true =>
          have hb := Nat.eq_of_beq_eq_true hb
          subst hb
          exact ⟨0, by decide, (fun z => by cases z), s_S_answer z⟩
        | false =>
          rw [hb] at z
          dsimp only at z
          cases hb : Nat.beq j 146 with
          | true =>
            have hb := Nat.eq_of_beq_eq_true hb
            subst hb
            exact ⟨0, by decide, (fun z => by cases z), s_S_refuse z⟩
          | false =>
            rw [hb] at z
            dsimp only at z
            cases z)
      (fun _ _ _ _ z => by cases z)
      (fun j as h x z => by
      dsimp only [C_S_land] at z
      cases hb : Nat.beq j 54 with
      | true =>
        have hb := Nat.eq_of_beq_eq_true hb
        subst hb
        exact ⟨0, by decide, (fun z => by cases z), s_Reader_trade z⟩
      | false =>
        rw [hb] at z
        dsimp only at z
        cases z)
      (fun j as h x z => by
      dsimp only [C_S_land] at z
      cases hb : Nat.beq j 18 with
      | true =>
        have hb := Nat.eq_of_beq_eq_true hb
        subst hb
        exact ⟨0, by decide, (fun z => by cases z), s_Ledger_clear z⟩
      | false =>
        rw [hb] at z
        dsimp only at z
        cases hb : Nat.beq j 80 with
        | true =>
          have hb := Nat.eq_of_beq_eq_true hb
          subst hb
          exact ⟨0, by decide, (fun z => by cases z), s_Shakes_clear z⟩
        | false =>
          rw [hb] at z
          dsimp only at z
          cases z)
      (fun p e R s m args below meth c Q n0 F hret => ?_)
    rw [m1] at F hret ⊢
    rw [mc_S_land] at F hret
    exact cuts_s (K := 400) (M := 101) (D := D_S_land N) (B := fun _ _ _ _ _ => none) F hret (chkT_ok chk_S_land) (hM_S_land N) (fun _ _ _ _ _ z => by cases z) (hD_S_land N) N 0 _ _ _ hf
  · cases hf
def T_S_fault : List (List (Option RW)) := [
  [some (.iload_n 1, 1, [1], 0, 0), some (.ifCond .ne 8, 3, [9], 0, 0), none, none, some (.aload_n 0, 1, [0], 0, 0), some (.getfield 89, 3, [11, 13, 0], 0, 0), none, none, some (.ireturn, 1, [], 0, 0), some (.iload_n 1, 1, [1], 0, 0), some (.iconst 1, 1, [], 1, 0), some (.if_icmp .ne 10, 3, [21], 0, 0), none, none, some (.aload_n 0, 1, [0], 0, 0), some (.getfield 92, 3, [11, 14, 0], 0, 0), none, none, some (.goto 4, 3, [22], 0, 0), none, none, some (.iconst (-1), 1, [], (-1), 0), some (.ireturn, 1, [], 0, 0)]]
def f_S_fault (N : Nat) (a1 : Int32) (h : MH) : Option (Int32 × MH) :=
  if a1 = 0 then
  (some (gI h 1 13, h))
  else
  (if a1 = 1 then
  (some (gI h 1 14, h))
  else
  (some ((-1), h)))
def C_S_fault (N : Nat) : MC := (KDL, false, (fun _ => 0), jsB, (fun _ _ _ => none), (fun _ _ _ => none), (fun _ _ _ => none), (fun _ _ _ => none))
def D_S_fault (N : Nat) (n pc : Nat) (lv : ML) (st : List MV) (h : MH) : Option (Int32 × MH) :=
  match Nat.beq pc 0 with
  | true => (match lk lv 0, lk lv 1, st with
    | some (.inr (.inr (0, 11, 1))), some (.inl a1), [] => f_S_fault N a1 h
    | _, _, _ => none)
  | false => none
set_option maxRecDepth 1000000 in
theorem E_S_fault_0 (N : Nat) (n : Nat) (a1 : Int32) (h : MH) : seg (C_S_fault N) 2 0 rI T_S_fault [0] (fun q lv st h => match Nat.ble 1 q with
    | true => D_S_fault N n q lv st h
    | false => none) 400 true 0 [(0, .inr (.inr (0, 11, 1))), (1, .inl a1)] [] h = f_S_fault N a1 h := (rfl)
set_option maxRecDepth 1000000 in
theorem chk_S_fault : chkT 11 false prog_1_method_11_code T_S_fault = true := by decide +kernel
theorem mc_S_fault : mC 118 = prog_1_method_11_code := by rfl
theorem mx_S_fault : mL 118 = 2 ∧ mR 118 = some .int ∧ mK 118 = 1 ∧ (mN 118).cls = cN 11 := by decide +kernel
theorem hD_S_fault (N : Nat) {r : Int32 × MH} : ∀ n pc lv st h, D_S_fault N n pc lv st h = some r → ∃ lv', (∀ q ∈ lv', q ∈ lv) ∧ seg (C_S_fault N) 2 0 rI T_S_fault [0] (fun q lv st h => match Nat.ble (pc + 1) q with
    | true => D_S_fault N n q lv st h
    | false => none) 400 true pc lv' st h = some r := by
  intro n pc lv st h hf
  unfold D_S_fault at hf
  split at hf
  · rename_i hb
    have hb := Nat.eq_of_beq_eq_true hb
    subst hb
    split at hf
    · rename_i y0 e0 e1
      exact ⟨_, (sub_cons e0 (sub_cons e1 sub_nil)), (E_S_fault_0 N n _ h).trans hf⟩
    · cases hf
  · skip
    cases hf
theorem hM_S_fault (N : Nat) {r : Int32 × MH} : ∀ n pc lv st h, D_S_fault N n pc lv st h = some r → pc < 23 := by
  intro n pc lv st h hf
  unfold D_S_fault at hf
  split at hf
  · rename_i hb
    rw [Nat.eq_of_beq_eq_true hb]
    decide
  · skip
    cases hf
theorem s_S_fault {l : Launch} {E : EV} {N : Nat} {as : List MV} {h : MH} {r : Int32 × MH} (hf : w_S_fault (f_S_fault N) as h = some r) : SndM l E false 0 118 as h (some (.inl r.1)) r.2 := by
  unfold w_S_fault at hf
  split at hf
  · obtain ⟨m1, m2, m3, m4⟩ := mx_S_fault
    refine snd_of (C := C_S_fault N) (own := 11) (rz := 0) (lim := 115) rI_eq m2 m4 pl_118 (TB_in _ cw_118 rfl) ⟨(fun _ => ⟨_, _, _, _, _, _, rfl, rfl, by rw [m4]; rfl⟩), (fun z => by rw [m3] at z; cases z)⟩ (fun z => by cases z) KDL_take rfl rfl (fun z => by cases z) (fun z => by cases z) (fun _ => rfl) (by rw [m1]; exact Nat.le_of_ble_eq_true rfl)
      (fun _ _ _ _ z => by cases z)
      (fun _ _ _ _ z => by cases z)
      (fun _ _ _ _ z => by cases z)
      (fun _ _ _ _ z => by cases z)
      (fun p e R s m args below meth c Q n0 F hret => ?_)
    rw [m1] at F hret ⊢
    rw [mc_S_fault] at F hret
    exact cuts_s (K := 400) (M := 23) (D := D_S_fault N) (B := fun _ _ _ _ _ => none) F hret (chkT_ok chk_S_fault) (hM_S_fault N) (fun _ _ _ _ _ z => by cases z) (hD_S_fault N) N 0 _ _ _ hf
  · cases hf
def T_S_many : List (List (Option RW)) := [
  [some (.iload_n 1, 1, [1], 0, 0), some (.iconst 2, 1, [], 2, 0), some (.invokestatic 186, 3, [2, 151, 2, 0], 0, 0), none, none, some (.ifCond .ne 9, 3, [14], 0, 0), none, none, some (.aload_n 0, 1, [0], 0, 0), some (.iconst 1, 1, [], 1, 0), some (.invokevirtual 128, 3, [0, 146, 2, 0], 0, 0), none, none, some (.ireturn, 1, [], 0, 0), some (.aload_n 0, 1, [0], 0, 0), some (.iload_n 1, 1, [1], 0, 0), some (.ifCond .ne 13, 3, [29], 0, 0), none, none, some (.aload_n 0, 1, [0], 0, 0), some (.getfield 81, 3, [11, 11, 3, 0, 2], 0, 0), none, none, some (.getfield 189, 3, [2, 0, 0], 0, 0), none, none, some (.goto 10, 3, [36], 0, 0), none, none, some (.aload_n 0, 1, [0], 0, 0), some (.getfield 81, 3, [11, 11, 3, 0, 2], 0, 0), none],
  [none, some (.getfield 192, 3, [2, 1, 0], 0, 0), none, none, some (.invokevirtual 183, 3, [0, 144, 2, 0], 0, 0), none, none, some (.ireturn, 1, [], 0, 0)]]
def f_S_many (N : Nat) (a1 : Int32) (h : MH) : Option (Int32 × MH) :=
  (f_S_isOneOf N a1 2 h).bind (fun x1 =>
  if x1.1 = 0 then
  ((f_S_refuse N 1 x1.2).bind (fun x2 =>
  some (x2.1, x2.2)))
  else
  (if a1 = 0 then
  ((f_S_answer N (gI x1.2 (gR x1.2 1 11) 0) x1.2).bind (fun x3 =>
  some (x3.1, x3.2)))
  else
  ((f_S_answer N (gI x1.2 (gR x1.2 1 11) 1) x1.2).bind (fun x4 =>
  some (x4.1, x4.2)))))
def C_S_many (N : Nat) : MC := (KDL, false, (fun _ => 0), jsB, (fun j => match Nat.beq j 144 with
    | true => w_S_answer (f_S_answer N)
    | false => match Nat.beq j 146 with
    | true => w_S_refuse (f_S_refuse N)
    | false => match Nat.beq j 151 with
    | true => w_S_isOneOf (f_S_isOneOf N)
    | false => fun _ _ => none), (fun _ _ _ => none), (fun _ _ _ => none), (fun _ _ _ => none))
def D_S_many (N : Nat) (n pc : Nat) (lv : ML) (st : List MV) (h : MH) : Option (Int32 × MH) :=
  match Nat.beq pc 0 with
  | true => (match lk lv 0, lk lv 1, st with
    | some (.inr (.inr (0, 11, 1))), some (.inl a1), [] => f_S_many N a1 h
    | _, _, _ => none)
  | false => none
set_option maxRecDepth 1000000 in
theorem E_S_many_0 (N : Nat) (n : Nat) (a1 : Int32) (h : MH) : seg (C_S_many N) 2 0 rI T_S_many [0] (fun q lv st h => match Nat.ble 1 q with
    | true => D_S_many N n q lv st h
    | false => none) 400 true 0 [(0, .inr (.inr (0, 11, 1))), (1, .inl a1)] [] h = f_S_many N a1 h := (rfl)
set_option maxRecDepth 1000000 in
theorem chk_S_many : chkT 11 false prog_1_method_12_code T_S_many = true := by decide +kernel
theorem mc_S_many : mC 119 = prog_1_method_12_code := by rfl
theorem mx_S_many : mL 119 = 2 ∧ mR 119 = some .int ∧ mK 119 = 1 ∧ (mN 119).cls = cN 11 := by decide +kernel
theorem hD_S_many (N : Nat) {r : Int32 × MH} : ∀ n pc lv st h, D_S_many N n pc lv st h = some r → ∃ lv', (∀ q ∈ lv', q ∈ lv) ∧ seg (C_S_many N) 2 0 rI T_S_many [0] (fun q lv st h => match Nat.ble (pc + 1) q with
    | true => D_S_many N n q lv st h
    | false => none) 400 true pc lv' st h = some r := by
  intro n pc lv st h hf
  unfold D_S_many at hf
  split at hf
  · rename_i hb
    have hb := Nat.eq_of_beq_eq_true hb
    subst hb
    split at hf
    · rename_i y0 e0 e1
      exact ⟨_, (sub_cons e0 (sub_cons e1 sub_nil)), (E_S_many_0 N n _ h).trans hf⟩
    · cases hf
  · skip
    cases hf
theorem hM_S_many (N : Nat) {r : Int32 × MH} : ∀ n pc lv st h, D_S_many N n pc lv st h = some r → pc < 40 := by
  intro n pc lv st h hf
  unfold D_S_many at hf
  split at hf
  · rename_i hb
    rw [Nat.eq_of_beq_eq_true hb]
    decide
  · skip
    cases hf
theorem s_S_many {l : Launch} {E : EV} {N : Nat} {as : List MV} {h : MH} {r : Int32 × MH} (hf : w_S_many (f_S_many N) as h = some r) : SndM l E false 1 119 as h (some (.inl r.1)) r.2 := by
  unfold w_S_many at hf
  split at hf
  · obtain ⟨m1, m2, m3, m4⟩ := mx_S_many
    refine snd_of (C := C_S_many N) (own := 11) (rz := 0) (lim := 115) rI_eq m2 m4 pl_119 (TB_in _ cw_119 rfl) ⟨(fun _ => ⟨_, _, _, _, _, _, rfl, rfl, by rw [m4]; rfl⟩), (fun z => by rw [m3] at z; cases z)⟩ (fun z => by cases z) KDL_take rfl rfl (fun z => by cases z) (fun z => by cases z) (fun _ => rfl) (by rw [m1]; exact Nat.le_of_ble_eq_true rfl)
      (fun j as h x z => by
      dsimp only [C_S_many] at z
      cases hb : Nat.beq j 144 with
      | true =>
        have hb := Nat.eq_of_beq_eq_true hb
        subst hb
        exact ⟨0, by decide, (fun z => by cases z), s_S_answer z⟩
      | false =>
        rw [hb] at z
        dsimp only at z
        cases hb : Nat.beq j 146 with
        | true =>
          have hb := Nat.eq_of_beq_eq_true hb
          subst hb
          exact ⟨0, by decide, (fun z => by cases z), s_S_refuse z⟩
        | false =>
          rw [hb] at z
          dsimp only at z
          cases hb : Nat.beq j 151 with
          | true =>
            have hb := Nat.eq_of_beq_eq_true hb
            subst hb
            exact ⟨0, by decide, (fun z => by cases z), s_S_isOneOf z⟩
          | false =>
            rw [hb] at z
            dsimp only at z
            cases z)
      (fun _ _ _ _ z => by cases z)
      (fun _ _ _ _ z => by cases z)
      (fun _ _ _ _ z => by cases z)
      (fun p e R s m args below meth c Q n0 F hret => ?_)
    rw [m1] at F hret ⊢
    rw [mc_S_many] at F hret
    exact cuts_s (K := 400) (M := 40) (D := D_S_many N) (B := fun _ _ _ _ _ => none) F hret (chkT_ok chk_S_many) (hM_S_many N) (fun _ _ _ _ _ z => by cases z) (hD_S_many N) N 0 _ _ _ hf
  · cases hf
def T_S_isCell : List (List (Option RW)) := [
  [some (.iload_n 1, 1, [1], 0, 0), some (.aload_n 0, 1, [0], 0, 0), some (.getfield 81, 3, [11, 11, 3, 0, 2], 0, 0), none, none, some (.getfield 189, 3, [2, 0, 0], 0, 0), none, none, some (.invokestatic 186, 3, [2, 151, 2, 0], 0, 0), none, none, some (.ireturn, 1, [], 0, 0)]]
def f_S_isCell (N : Nat) (a1 : Int32) (h : MH) : Option (Int32 × MH) :=
  (f_S_isOneOf N a1 (gI h (gR h 1 11) 0) h).bind (fun x1 =>
  match narOK 1 x1.1 with
  | true => some (x1.1, x1.2)
  | false => none)
def C_S_isCell (N : Nat) : MC := (KDL, false, (fun _ => 0), jsB, (fun j => match Nat.beq j 151 with
    | true => w_S_isOneOf (f_S_isOneOf N)
    | false => fun _ _ => none), (fun _ _ _ => none), (fun _ _ _ => none), (fun _ _ _ => none))
def D_S_isCell (N : Nat) (n pc : Nat) (lv : ML) (st : List MV) (h : MH) : Option (Int32 × MH) :=
  match Nat.beq pc 0 with
  | true => (match lk lv 0, lk lv 1, st with
    | some (.inr (.inr (0, 11, 1))), some (.inl a1), [] => f_S_isCell N a1 h
    | _, _, _ => none)
  | false => none
set_option maxRecDepth 1000000 in
theorem E_S_isCell_0 (N : Nat) (n : Nat) (a1 : Int32) (h : MH) : seg (C_S_isCell N) 2 1 rI T_S_isCell [0] (fun q lv st h => match Nat.ble 1 q with
    | true => D_S_isCell N n q lv st h
    | false => none) 400 true 0 [(0, .inr (.inr (0, 11, 1))), (1, .inl a1)] [] h = f_S_isCell N a1 h := (rfl)
set_option maxRecDepth 1000000 in
theorem chk_S_isCell : chkT 11 false prog_1_method_49_code T_S_isCell = true := by decide +kernel
theorem mc_S_isCell : mC 156 = prog_1_method_49_code := by rfl
theorem mx_S_isCell : mL 156 = 2 ∧ mR 156 = some .boolean ∧ mK 156 = 1 ∧ (mN 156).cls = cN 11 := by decide +kernel
theorem hD_S_isCell (N : Nat) {r : Int32 × MH} : ∀ n pc lv st h, D_S_isCell N n pc lv st h = some r → ∃ lv', (∀ q ∈ lv', q ∈ lv) ∧ seg (C_S_isCell N) 2 1 rI T_S_isCell [0] (fun q lv st h => match Nat.ble (pc + 1) q with
    | true => D_S_isCell N n q lv st h
    | false => none) 400 true pc lv' st h = some r := by
  intro n pc lv st h hf
  unfold D_S_isCell at hf
  split at hf
  · rename_i hb
    have hb := Nat.eq_of_beq_eq_true hb
    subst hb
    split at hf
    · rename_i y0 e0 e1
      exact ⟨_, (sub_cons e0 (sub_cons e1 sub_nil)), (E_S_isCell_0 N n _ h).trans hf⟩
    · cases hf
  · skip
    cases hf
theorem hM_S_isCell (N : Nat) {r : Int32 × MH} : ∀ n pc lv st h, D_S_isCell N n pc lv st h = some r → pc < 12 := by
  intro n pc lv st h hf
  unfold D_S_isCell at hf
  split at hf
  · rename_i hb
    rw [Nat.eq_of_beq_eq_true hb]
    decide
  · skip
    cases hf
theorem s_S_isCell {l : Launch} {E : EV} {N : Nat} {as : List MV} {h : MH} {r : Int32 × MH} (hf : w_S_isCell (f_S_isCell N) as h = some r) : SndM l E false 1 156 as h (some (.inl r.1)) r.2 := by
  unfold w_S_isCell at hf
  split at hf
  · obtain ⟨m1, m2, m3, m4⟩ := mx_S_isCell
    refine snd_of (C := C_S_isCell N) (own := 11) (rz := 1) (lim := 115) rI_eq m2 m4 pl_156 (TB_in _ cw_156 rfl) ⟨(fun _ => ⟨_, _, _, _, _, _, rfl, rfl, by rw [m4]; rfl⟩), (fun z => by rw [m3] at z; cases z)⟩ (fun z => by cases z) KDL_take rfl rfl (fun z => by cases z) (fun z => by cases z) (fun _ => rfl) (by rw [m1]; exact Nat.le_of_ble_eq_true rfl)
      (fun j as h x z => by
      dsimp only [C_S_isCell] at z
      cases hb : Nat.beq j 151 with
      | true =>
        have hb := Nat.eq_of_beq_eq_true hb
        subst hb
        exact ⟨0, by decide, (fun z => by cases z), s_S_isOneOf z⟩
      | false =>
        rw [hb] at z
        dsimp only at z
        cases z)
      (fun _ _ _ _ z => by cases z)
      (fun _ _ _ _ z => by cases z)
      (fun _ _ _ _ z => by cases z)
      (fun p e R s m args below meth c Q n0 F hret => ?_)
    rw [m1] at F hret ⊢
    rw [mc_S_isCell] at F hret
    exact cuts_s (K := 400) (M := 12) (D := D_S_isCell N) (B := fun _ _ _ _ _ => none) F hret (chkT_ok chk_S_isCell) (hM_S_isCell N) (fun _ _ _ _ _ z => by cases z) (hD_S_isCell N) N 0 _ _ _ hf
  · cases hf
def T_S_isMark : List (List (Option RW)) := [
  [some (.iload_n 1, 1, [1], 0, 0), some (.aload_n 0, 1, [0], 0, 0), some (.getfield 81, 3, [11, 11, 3, 0, 2], 0, 0), none, none, some (.getfield 192, 3, [2, 1, 0], 0, 0), none, none, some (.invokestatic 186, 3, [2, 151, 2, 0], 0, 0), none, none, some (.ireturn, 1, [], 0, 0)]]
def f_S_isMark (N : Nat) (a1 : Int32) (h : MH) : Option (Int32 × MH) :=
  (f_S_isOneOf N a1 (gI h (gR h 1 11) 1) h).bind (fun x1 =>
  match narOK 1 x1.1 with
  | true => some (x1.1, x1.2)
  | false => none)
def C_S_isMark (N : Nat) : MC := (KDL, false, (fun _ => 0), jsB, (fun j => match Nat.beq j 151 with
    | true => w_S_isOneOf (f_S_isOneOf N)
    | false => fun _ _ => none), (fun _ _ _ => none), (fun _ _ _ => none), (fun _ _ _ => none))
def D_S_isMark (N : Nat) (n pc : Nat) (lv : ML) (st : List MV) (h : MH) : Option (Int32 × MH) :=
  match Nat.beq pc 0 with
  | true => (match lk lv 0, lk lv 1, st with
    | some (.inr (.inr (0, 11, 1))), some (.inl a1), [] => f_S_isMark N a1 h
    | _, _, _ => none)
  | false => none
set_option maxRecDepth 1000000 in
theorem E_S_isMark_0 (N : Nat) (n : Nat) (a1 : Int32) (h : MH) : seg (C_S_isMark N) 2 1 rI T_S_isMark [0] (fun q lv st h => match Nat.ble 1 q with
    | true => D_S_isMark N n q lv st h
    | false => none) 400 true 0 [(0, .inr (.inr (0, 11, 1))), (1, .inl a1)] [] h = f_S_isMark N a1 h := (rfl)
set_option maxRecDepth 1000000 in
theorem chk_S_isMark : chkT 11 false prog_1_method_50_code T_S_isMark = true := by decide +kernel
theorem mc_S_isMark : mC 157 = prog_1_method_50_code := by rfl
theorem mx_S_isMark : mL 157 = 2 ∧ mR 157 = some .boolean ∧ mK 157 = 1 ∧ (mN 157).cls = cN 11 := by decide +kernel
theorem hD_S_isMark (N : Nat) {r : Int32 × MH} : ∀ n pc lv st h, D_S_isMark N n pc lv st h = some r → ∃ lv', (∀ q ∈ lv', q ∈ lv) ∧ seg (C_S_isMark N) 2 1 rI T_S_isMark [0] (fun q lv st h => match Nat.ble (pc + 1) q with
    | true => D_S_isMark N n q lv st h
    | false => none) 400 true pc lv' st h = some r := by
  intro n pc lv st h hf
  unfold D_S_isMark at hf
  split at hf
  · rename_i hb
    have hb := Nat.eq_of_beq_eq_true hb
    subst hb
    split at hf
    · rename_i y0 e0 e1
      exact ⟨_, (sub_cons e0 (sub_cons e1 sub_nil)), (E_S_isMark_0 N n _ h).trans hf⟩
    · cases hf
  · skip
    cases hf
theorem hM_S_isMark (N : Nat) {r : Int32 × MH} : ∀ n pc lv st h, D_S_isMark N n pc lv st h = some r → pc < 12 := by
  intro n pc lv st h hf
  unfold D_S_isMark at hf
  split at hf
  · rename_i hb
    rw [Nat.eq_of_beq_eq_true hb]
    decide
  · skip
    cases hf
theorem s_S_isMark {l : Launch} {E : EV} {N : Nat} {as : List MV} {h : MH} {r : Int32 × MH} (hf : w_S_isMark (f_S_isMark N) as h = some r) : SndM l E false 1 157 as h (some (.inl r.1)) r.2 := by
  unfold w_S_isMark at hf
  split at hf
  · obtain ⟨m1, m2, m3, m4⟩ := mx_S_isMark
    refine snd_of (C := C_S_isMark N) (own := 11) (rz := 1) (lim := 115) rI_eq m2 m4 pl_157 (TB_in _ cw_157 rfl) ⟨(fun _ => ⟨_, _, _, _, _, _, rfl, rfl, by rw [m4]; rfl⟩), (fun z => by rw [m3] at z; cases z)⟩ (fun z => by cases z) KDL_take rfl rfl (fun z => by cases z) (fun z => by cases z) (fun _ => rfl) (by rw [m1]; exact Nat.le_of_ble_eq_true rfl)
      (fun j as h x z => by
      dsimp only [C_S_isMark] at z
      cases hb : Nat.beq j 151 with
      | true =>
        have hb := Nat.eq_of_beq_eq_true hb
        subst hb
        exact ⟨0, by decide, (fun z => by cases z), s_S_isOneOf z⟩
      | false =>
        rw [hb] at z
        dsimp only at z
        cases z)
      (fun _ _ _ _ z => by cases z)
      (fun _ _ _ _ z => by cases z)
      (fun _ _ _ _ z => by cases z)
      (fun p e R s m args below meth c Q n0 F hret => ?_)
    rw [m1] at F hret ⊢
    rw [mc_S_isMark] at F hret
    exact cuts_s (K := 400) (M := 12) (D := D_S_isMark N) (B := fun _ _ _ _ _ => none) F hret (chkT_ok chk_S_isMark) (hM_S_isMark N) (fun _ _ _ _ _ z => by cases z) (hD_S_isMark N) N 0 _ _ _ hf
  · cases hf
def T_S_moves : List (List (Option RW)) := [
  [some (.aload_n 0, 1, [0], 0, 0), some (.iload_n 1, 1, [1], 0, 0), some (.invokevirtual 195, 3, [0, 156, 2, 0], 0, 0), none, none, some (.ifCond .eq 11, 3, [16], 0, 0), none, none, some (.aload_n 0, 1, [0], 0, 0), some (.iload_n 2, 1, [2], 0, 0), some (.invokevirtual 198, 3, [0, 157, 2, 0], 0, 0), none, none, some (.ifCond .ne 9, 3, [22], 0, 0), none, none, some (.aload_n 0, 1, [0], 0, 0), some (.iconst 1, 1, [], 1, 0), some (.invokevirtual 128, 3, [0, 146, 2, 0], 0, 0), none, none, some (.ireturn, 1, [], 0, 0), some (.aload_n 0, 1, [0], 0, 0), some (.aload_n 0, 1, [0], 0, 0), some (.getfield 81, 3, [11, 11, 3, 0, 2], 0, 0), none, none, some (.iload_n 1, 1, [1], 0, 0), some (.iload_n 2, 1, [2], 0, 0), some (.invokevirtual 201, 3, [1, 15, 3, 0], 0, 0), none, none],
  [some (.invokevirtual 183, 3, [0, 144, 2, 0], 0, 0), none, none, some (.ireturn, 1, [], 0, 0)]]
def f_S_moves (N : Nat) (a1 : Int32) (a2 : Int32) (h : MH) : Option (Int32 × MH) :=
  (f_S_isCell N a1 h).bind (fun x1 =>
  if x1.1 = 0 then
  ((f_S_refuse N 1 x1.2).bind (fun x2 =>
  some (x2.1, x2.2)))
  else
  ((f_S_isMark N a2 x1.2).bind (fun x3 =>
  if x3.1 = 0 then
  ((f_S_refuse N 1 x3.2).bind (fun x4 =>
  some (x4.1, x4.2)))
  else
  ((f_Land_unit N (gR x3.2 1 11) a1 a2 x3.2).bind (fun x5 =>
  (f_S_answer N x5.1 x5.2).bind (fun x6 =>
  some (x6.1, x6.2)))))))
def C_S_moves (N : Nat) : MC := (KDL, false, (fun _ => 0), jsB, (fun j => match Nat.beq j 15 with
    | true => w_Land_unit (f_Land_unit N)
    | false => match Nat.beq j 144 with
    | true => w_S_answer (f_S_answer N)
    | false => match Nat.beq j 146 with
    | true => w_S_refuse (f_S_refuse N)
    | false => match Nat.beq j 156 with
    | true => w_S_isCell (f_S_isCell N)
    | false => match Nat.beq j 157 with
    | true => w_S_isMark (f_S_isMark N)
    | false => fun _ _ => none), (fun _ _ _ => none), (fun _ _ _ => none), (fun _ _ _ => none))
def D_S_moves (N : Nat) (n pc : Nat) (lv : ML) (st : List MV) (h : MH) : Option (Int32 × MH) :=
  match Nat.beq pc 0 with
  | true => (match lk lv 0, lk lv 1, lk lv 2, st with
    | some (.inr (.inr (0, 11, 1))), some (.inl a1), some (.inl a2), [] => f_S_moves N a1 a2 h
    | _, _, _, _ => none)
  | false => none
set_option maxRecDepth 1000000 in
theorem E_S_moves_0 (N : Nat) (n : Nat) (a1 : Int32) (a2 : Int32) (h : MH) : seg (C_S_moves N) 3 0 rI T_S_moves [0] (fun q lv st h => match Nat.ble 1 q with
    | true => D_S_moves N n q lv st h
    | false => none) 400 true 0 [(0, .inr (.inr (0, 11, 1))), (1, .inl a1), (2, .inl a2)] [] h = f_S_moves N a1 a2 h := (rfl)
set_option maxRecDepth 1000000 in
theorem chk_S_moves : chkT 11 false prog_1_method_13_code T_S_moves = true := by decide +kernel
theorem mc_S_moves : mC 120 = prog_1_method_13_code := by rfl
theorem mx_S_moves : mL 120 = 3 ∧ mR 120 = some .int ∧ mK 120 = 1 ∧ (mN 120).cls = cN 11 := by decide +kernel
theorem hD_S_moves (N : Nat) {r : Int32 × MH} : ∀ n pc lv st h, D_S_moves N n pc lv st h = some r → ∃ lv', (∀ q ∈ lv', q ∈ lv) ∧ seg (C_S_moves N) 3 0 rI T_S_moves [0] (fun q lv st h => match Nat.ble (pc + 1) q with
    | true => D_S_moves N n q lv st h
    | false => none) 400 true pc lv' st h = some r := by
  intro n pc lv st h hf
  unfold D_S_moves at hf
  split at hf
  · rename_i hb
    have hb := Nat.eq_of_beq_eq_true hb
    subst hb
    split at hf
    · rename_i y0 y1 e0 e1 e2
      exact ⟨_, (sub_cons e0 (sub_cons e1 (sub_cons e2 sub_nil))), (E_S_moves_0 N n _ _ h).trans hf⟩
    · cases hf
  · skip
    cases hf
theorem hM_S_moves (N : Nat) {r : Int32 × MH} : ∀ n pc lv st h, D_S_moves N n pc lv st h = some r → pc < 36 := by
  intro n pc lv st h hf
  unfold D_S_moves at hf
  split at hf
  · rename_i hb
    rw [Nat.eq_of_beq_eq_true hb]
    decide
  · skip
    cases hf
theorem s_S_moves {l : Launch} {E : EV} {N : Nat} {as : List MV} {h : MH} {r : Int32 × MH} (hf : w_S_moves (f_S_moves N) as h = some r) : SndM l E false 2 120 as h (some (.inl r.1)) r.2 := by
  unfold w_S_moves at hf
  split at hf
  · obtain ⟨m1, m2, m3, m4⟩ := mx_S_moves
    refine snd_of (C := C_S_moves N) (own := 11) (rz := 0) (lim := 115) rI_eq m2 m4 pl_120 (TB_in _ cw_120 rfl) ⟨(fun _ => ⟨_, _, _, _, _, _, rfl, rfl, by rw [m4]; rfl⟩), (fun z => by rw [m3] at z; cases z)⟩ (fun z => by cases z) KDL_take rfl rfl (fun z => by cases z) (fun z => by cases z) (fun _ => rfl) (by rw [m1]; exact Nat.le_of_ble_eq_true rfl)
      (fun j as h x z => by
      dsimp only [C_S_moves] at z
      cases hb : Nat.beq j 15 with
      | true =>
        have hb := Nat.eq_of_beq_eq_true hb
        subst hb
        exact ⟨0, by decide, (fun z => by cases z), s_Land_unit z⟩
      | false =>
        rw [hb] at z
        dsimp only at z
        cases hb : Nat.beq j 144 with
        | true =>
          have hb := Nat.eq_of_beq_eq_true hb
          subst hb
          exact ⟨0, by decide, (fun z => by cases z), s_S_answer z⟩
        | false =>
          rw [hb] at z
          dsimp only at z
          cases hb : Nat.beq j 146 with
          | true =>
            have hb := Nat.eq_of_beq_eq_true hb
            subst hb
            exact ⟨0, by decide, (fun z => by cases z), s_S_refuse z⟩
          | false =>
            rw [hb] at z
            dsimp only at z
            cases hb : Nat.beq j 156 with
            | true =>
              have hb := Nat.eq_of_beq_eq_true hb
              subst hb
              exact ⟨1, by decide, (fun z => by cases z), s_S_isCell z⟩
            | false =>
              rw [hb] at z
              dsimp only at z
              cases hb : Nat.beq j 157 with
              | true =>
                have hb := Nat.eq_of_beq_eq_true hb
                subst hb
                exact ⟨1, by decide, (fun z => by cases z), s_S_isMark z⟩
              | false =>
                rw [hb] at z
                dsimp only at z
                cases z)
      (fun _ _ _ _ z => by cases z)
      (fun _ _ _ _ z => by cases z)
      (fun _ _ _ _ z => by cases z)
      (fun p e R s m args below meth c Q n0 F hret => ?_)
    rw [m1] at F hret ⊢
    rw [mc_S_moves] at F hret
    exact cuts_s (K := 400) (M := 36) (D := D_S_moves N) (B := fun _ _ _ _ _ => none) F hret (chkT_ok chk_S_moves) (hM_S_moves N) (fun _ _ _ _ _ z => by cases z) (hD_S_moves N) N 0 _ _ _ hf
  · cases hf
def T_S_isYear : List (List (Option RW)) := [
  [some (.iload_n 0, 1, [0], 0, 0), some (.bipush 20, 2, [], 20, 0), none, some (.invokestatic 186, 3, [2, 151, 2, 0], 0, 0), none, none, some (.ireturn, 1, [], 0, 0)]]
def f_S_isYear (N : Nat) (a0 : Int32) (h : MH) : Option (Int32 × MH) :=
  (f_S_isOneOf N a0 20 h).bind (fun x1 =>
  match narOK 1 x1.1 with
  | true => some (x1.1, x1.2)
  | false => none)
def C_S_isYear (N : Nat) : MC := (KDL, false, (fun _ => 0), jsB, (fun j => match Nat.beq j 151 with
    | true => w_S_isOneOf (f_S_isOneOf N)
    | false => fun _ _ => none), (fun _ _ _ => none), (fun _ _ _ => none), (fun _ _ _ => none))
def D_S_isYear (N : Nat) (n pc : Nat) (lv : ML) (st : List MV) (h : MH) : Option (Int32 × MH) :=
  match Nat.beq pc 0 with
  | true => (match lk lv 0, st with
    | some (.inl a0), [] => f_S_isYear N a0 h
    | _, _ => none)
  | false => none
set_option maxRecDepth 1000000 in
theorem E_S_isYear_0 (N : Nat) (n : Nat) (a0 : Int32) (h : MH) : seg (C_S_isYear N) 1 1 rI T_S_isYear [0] (fun q lv st h => match Nat.ble 1 q with
    | true => D_S_isYear N n q lv st h
    | false => none) 400 true 0 [(0, .inl a0)] [] h = f_S_isYear N a0 h := (rfl)
set_option maxRecDepth 1000000 in
theorem chk_S_isYear : chkT 11 false prog_1_method_46_code T_S_isYear = true := by decide +kernel
theorem mc_S_isYear : mC 153 = prog_1_method_46_code := by rfl
theorem mx_S_isYear : mL 153 = 1 ∧ mR 153 = some .boolean ∧ mK 153 = 0 ∧ (mN 153).cls = cN 11 := by decide +kernel
theorem hD_S_isYear (N : Nat) {r : Int32 × MH} : ∀ n pc lv st h, D_S_isYear N n pc lv st h = some r → ∃ lv', (∀ q ∈ lv', q ∈ lv) ∧ seg (C_S_isYear N) 1 1 rI T_S_isYear [0] (fun q lv st h => match Nat.ble (pc + 1) q with
    | true => D_S_isYear N n q lv st h
    | false => none) 400 true pc lv' st h = some r := by
  intro n pc lv st h hf
  unfold D_S_isYear at hf
  split at hf
  · rename_i hb
    have hb := Nat.eq_of_beq_eq_true hb
    subst hb
    split at hf
    · rename_i y0 e0
      exact ⟨_, (sub_cons e0 sub_nil), (E_S_isYear_0 N n _ h).trans hf⟩
    · cases hf
  · skip
    cases hf
theorem hM_S_isYear (N : Nat) {r : Int32 × MH} : ∀ n pc lv st h, D_S_isYear N n pc lv st h = some r → pc < 7 := by
  intro n pc lv st h hf
  unfold D_S_isYear at hf
  split at hf
  · rename_i hb
    rw [Nat.eq_of_beq_eq_true hb]
    decide
  · skip
    cases hf
theorem s_S_isYear {l : Launch} {E : EV} {N : Nat} {as : List MV} {h : MH} {r : Int32 × MH} (hf : w_S_isYear (f_S_isYear N) as h = some r) : SndM l E false 1 153 as h (some (.inl r.1)) r.2 := by
  unfold w_S_isYear at hf
  split at hf
  · obtain ⟨m1, m2, m3, m4⟩ := mx_S_isYear
    refine snd_of (C := C_S_isYear N) (own := 11) (rz := 1) (lim := 115) rI_eq m2 m4 pl_153 (TB_in _ cw_153 rfl) ⟨(fun z => by rw [m3] at z; cases z), (fun z => by rw [m3] at z; cases z)⟩ (fun z => by cases z) KDL_take rfl rfl (fun z => by cases z) (fun z => by cases z) (fun _ => rfl) (by rw [m1]; exact Nat.le_of_ble_eq_true rfl)
      (fun j as h x z => by
      dsimp only [C_S_isYear] at z
      cases hb : Nat.beq j 151 with
      | true =>
        have hb := Nat.eq_of_beq_eq_true hb
        subst hb
        exact ⟨0, by decide, (fun z => by cases z), s_S_isOneOf z⟩
      | false =>
        rw [hb] at z
        dsimp only at z
        cases z)
      (fun _ _ _ _ z => by cases z)
      (fun _ _ _ _ z => by cases z)
      (fun _ _ _ _ z => by cases z)
      (fun p e R s m args below meth c Q n0 F hret => ?_)
    rw [m1] at F hret ⊢
    rw [mc_S_isYear] at F hret
    exact cuts_s (K := 400) (M := 7) (D := D_S_isYear N) (B := fun _ _ _ _ _ => none) F hret (chkT_ok chk_S_isYear) (hM_S_isYear N) (fun _ _ _ _ _ z => by cases z) (hD_S_isYear N) N 0 _ _ _ hf
  · cases hf
def T_S_isDay : List (List (Option RW)) := [
  [some (.iload_n 0, 1, [0], 0, 0), some (.iconst 0, 1, [], 0, 0), some (.sipush 9999, 3, [], 9999, 0), none, none, some (.invokestatic 207, 3, [2, 150, 3, 0], 0, 0), none, none, some (.ireturn, 1, [], 0, 0)]]
def f_S_isDay (N : Nat) (a0 : Int32) (h : MH) : Option (Int32 × MH) :=
  (f_S_isWithin N a0 0 9999 h).bind (fun x1 =>
  match narOK 1 x1.1 with
  | true => some (x1.1, x1.2)
  | false => none)
def C_S_isDay (N : Nat) : MC := (KDL, false, (fun _ => 0), jsB, (fun j => match Nat.beq j 150 with
    | true => w_S_isWithin (f_S_isWithin N)
    | false => fun _ _ => none), (fun _ _ _ => none), (fun _ _ _ => none), (fun _ _ _ => none))
def D_S_isDay (N : Nat) (n pc : Nat) (lv : ML) (st : List MV) (h : MH) : Option (Int32 × MH) :=
  match Nat.beq pc 0 with
  | true => (match lk lv 0, st with
    | some (.inl a0), [] => f_S_isDay N a0 h
    | _, _ => none)
  | false => none
set_option maxRecDepth 1000000 in
theorem E_S_isDay_0 (N : Nat) (n : Nat) (a0 : Int32) (h : MH) : seg (C_S_isDay N) 1 1 rI T_S_isDay [0] (fun q lv st h => match Nat.ble 1 q with
    | true => D_S_isDay N n q lv st h
    | false => none) 400 true 0 [(0, .inl a0)] [] h = f_S_isDay N a0 h := (rfl)
set_option maxRecDepth 1000000 in
theorem chk_S_isDay : chkT 11 false prog_1_method_48_code T_S_isDay = true := by decide +kernel
theorem mc_S_isDay : mC 155 = prog_1_method_48_code := by rfl
theorem mx_S_isDay : mL 155 = 1 ∧ mR 155 = some .boolean ∧ mK 155 = 0 ∧ (mN 155).cls = cN 11 := by decide +kernel
theorem hD_S_isDay (N : Nat) {r : Int32 × MH} : ∀ n pc lv st h, D_S_isDay N n pc lv st h = some r → ∃ lv', (∀ q ∈ lv', q ∈ lv) ∧ seg (C_S_isDay N) 1 1 rI T_S_isDay [0] (fun q lv st h => match Nat.ble (pc + 1) q with
    | true => D_S_isDay N n q lv st h
    | false => none) 400 true pc lv' st h = some r := by
  intro n pc lv st h hf
  unfold D_S_isDay at hf
  split at hf
  · rename_i hb
    have hb := Nat.eq_of_beq_eq_true hb
    subst hb
    split at hf
    · rename_i y0 e0
      exact ⟨_, (sub_cons e0 sub_nil), (E_S_isDay_0 N n _ h).trans hf⟩
    · cases hf
  · skip
    cases hf
theorem hM_S_isDay (N : Nat) {r : Int32 × MH} : ∀ n pc lv st h, D_S_isDay N n pc lv st h = some r → pc < 9 := by
  intro n pc lv st h hf
  unfold D_S_isDay at hf
  split at hf
  · rename_i hb
    rw [Nat.eq_of_beq_eq_true hb]
    decide
  · skip
    cases hf
theorem s_S_isDay {l : Launch} {E : EV} {N : Nat} {as : List MV} {h : MH} {r : Int32 × MH} (hf : w_S_isDay (f_S_isDay N) as h = some r) : SndM l E false 1 155 as h (some (.inl r.1)) r.2 := by
  unfold w_S_isDay at hf
  split at hf
  · obtain ⟨m1, m2, m3, m4⟩ := mx_S_isDay
    refine snd_of (C := C_S_isDay N) (own := 11) (rz := 1) (lim := 115) rI_eq m2 m4 pl_155 (TB_in _ cw_155 rfl) ⟨(fun z => by rw [m3] at z; cases z), (fun z => by rw [m3] at z; cases z)⟩ (fun z => by cases z) KDL_take rfl rfl (fun z => by cases z) (fun z => by cases z) (fun _ => rfl) (by rw [m1]; exact Nat.le_of_ble_eq_true rfl)
      (fun j as h x z => by
      dsimp only [C_S_isDay] at z
      cases hb : Nat.beq j 150 with
      | true =>
        have hb := Nat.eq_of_beq_eq_true hb
        subst hb
        exact ⟨0, by decide, (fun z => by cases z), s_S_isWithin z⟩
      | false =>
        rw [hb] at z
        dsimp only at z
        cases z)
      (fun _ _ _ _ z => by cases z)
      (fun _ _ _ _ z => by cases z)
      (fun _ _ _ _ z => by cases z)
      (fun p e R s m args below meth c Q n0 F hret => ?_)
    rw [m1] at F hret ⊢
    rw [mc_S_isDay] at F hret
    exact cuts_s (K := 400) (M := 9) (D := D_S_isDay N) (B := fun _ _ _ _ _ => none) F hret (chkT_ok chk_S_isDay) (hM_S_isDay N) (fun _ _ _ _ _ z => by cases z) (hD_S_isDay N) N 0 _ _ _ hf
  · cases hf
def T_S_row : List (List (Option RW)) := [
  [some (.aload_n 0, 1, [0], 0, 0), some (.iload_n 1, 1, [1], 0, 0), some (.invokevirtual 198, 3, [0, 157, 2, 0], 0, 0), none, none, some (.ifCond .eq 43, 3, [48], 0, 0), none, none, some (.iload_n 2, 1, [2], 0, 0), some (.invokestatic 204, 3, [2, 153, 1, 0], 0, 0), none, none, some (.ifCond .eq 36, 3, [48], 0, 0), none, none, some (.iload_n 3, 1, [3], 0, 0), some (.sipush (-2000), 3, [], (-2000), 0), none, none, some (.sipush 2000, 3, [], 2000, 0), none, none, some (.invokestatic 207, 3, [2, 150, 3, 0], 0, 0), none, none, some (.ifCond .eq 23, 3, [48], 0, 0), none, none, some (.iload 4, 2, [4], 0, 0), none, some (.iconst 0, 1, [], 0, 0), some (.sipush 200, 3, [], 200, 0)],
  [none, none, some (.invokestatic 207, 3, [2, 150, 3, 0], 0, 0), none, none, some (.ifCond .eq 11, 3, [48], 0, 0), none, none, some (.iload 5, 2, [5], 0, 0), none, some (.invokestatic 211, 3, [2, 155, 1, 0], 0, 0), none, none, some (.ifCond .ne 9, 3, [54], 0, 0), none, none, some (.aload_n 0, 1, [0], 0, 0), some (.iconst 1, 1, [], 1, 0), some (.invokevirtual 109, 3, [0, 147, 2, 0], 0, 0), none, none, some (.ireturn, 1, [], 0, 0), some (.aload_n 0, 1, [0], 0, 0), some (.getfield 25, 3, [11, 2, 2, 0, 3, 15], 0, 0), none, none, some (.getfield 214, 3, [3, 5, 0], 0, 0), none, none, some (.sipush 160, 3, [], 160, 0), none, none],
  [some (.if_icmp .lt 9, 3, [73], 0, 0), none, none, some (.aload_n 0, 1, [0], 0, 0), some (.iconst 4, 1, [], 4, 0), some (.invokevirtual 109, 3, [0, 147, 2, 0], 0, 0), none, none, some (.ireturn, 1, [], 0, 0), some (.iload 5, 2, [5], 0, 0), none, some (.aload_n 0, 1, [0], 0, 0), some (.getfield 25, 3, [11, 2, 2, 0, 3, 15], 0, 0), none, none, some (.getfield 217, 3, [3, 10, 0], 0, 0), none, none, some (.if_icmp .ge 9, 3, [91], 0, 0), none, none, some (.aload_n 0, 1, [0], 0, 0), some (.iconst 5, 1, [], 5, 0), some (.invokevirtual 109, 3, [0, 147, 2, 0], 0, 0), none, none, some (.ireturn, 1, [], 0, 0), some (.aload_n 0, 1, [0], 0, 0), some (.getfield 25, 3, [11, 2, 2, 0, 3, 15], 0, 0), none, none, some (.iload_n 1, 1, [1], 0, 0)],
  [some (.iload_n 2, 1, [2], 0, 0), some (.iload_n 3, 1, [3], 0, 0), some (.iload 4, 2, [4], 0, 0), none, some (.iload 5, 2, [5], 0, 0), none, some (.invokevirtual 220, 3, [1, 19, 6, 3], 0, 0), none, none, some (.aload_n 0, 1, [0], 0, 0), some (.invokevirtual 116, 3, [0, 145, 1, 0], 0, 0), none, none, some (.ireturn, 1, [], 0, 0)]]
def f_S_row (N : Nat) (a1 : Int32) (a2 : Int32) (a3 : Int32) (a4 : Int32) (a5 : Int32) (h : MH) : Option (Int32 × MH) :=
  (f_S_isMark N a1 h).bind (fun x1 =>
  if x1.1 = 0 then
  ((f_S_deny N 1 x1.2).bind (fun x2 =>
  match narOK 1 x2.1 with
  | true => some (x2.1, x2.2)
  | false => none))
  else
  ((f_S_isYear N a2 x1.2).bind (fun x3 =>
  if x3.1 = 0 then
  ((f_S_deny N 1 x3.2).bind (fun x4 =>
  match narOK 1 x4.1 with
  | true => some (x4.1, x4.2)
  | false => none))
  else
  ((f_S_isWithin N a3 ((-2000)) 2000 x3.2).bind (fun x5 =>
  if x5.1 = 0 then
  ((f_S_deny N 1 x5.2).bind (fun x6 =>
  match narOK 1 x6.1 with
  | true => some (x6.1, x6.2)
  | false => none))
  else
  ((f_S_isWithin N a4 0 200 x5.2).bind (fun x7 =>
  if x7.1 = 0 then
  ((f_S_deny N 1 x7.2).bind (fun x8 =>
  match narOK 1 x8.1 with
  | true => some (x8.1, x8.2)
  | false => none))
  else
  ((f_S_isDay N a5 x7.2).bind (fun x9 =>
  if x9.1 = 0 then
  ((f_S_deny N 1 x9.2).bind (fun x10 =>
  match narOK 1 x10.1 with
  | true => some (x10.1, x10.2)
  | false => none))
  else
  (if (gI x9.2 16 5) < 160 then
  (if (gI x9.2 16 10) ≤ a5 then
  ((f_Ledger_addRow N a1 a2 a3 a4 a5 x9.2).bind (fun x11 =>
  (f_S_allow N x11).bind (fun x12 =>
  match narOK 1 x12.1 with
  | true => some (x12.1, x12.2)
  | false => none)))
  else
  ((f_S_deny N 5 x9.2).bind (fun x13 =>
  match narOK 1 x13.1 with
  | true => some (x13.1, x13.2)
  | false => none)))
  else
  ((f_S_deny N 4 x9.2).bind (fun x14 =>
  match narOK 1 x14.1 with
  | true => some (x14.1, x14.2)
  | false => none))))))))))))
def C_S_row (N : Nat) : MC := (KDL, false, (fun _ => 0), jsB, (fun j => match Nat.beq j 145 with
    | true => w_S_allow (f_S_allow N)
    | false => match Nat.beq j 147 with
    | true => w_S_deny (f_S_deny N)
    | false => match Nat.beq j 150 with
    | true => w_S_isWithin (f_S_isWithin N)
    | false => match Nat.beq j 153 with
    | true => w_S_isYear (f_S_isYear N)
    | false => match Nat.beq j 155 with
    | true => w_S_isDay (f_S_isDay N)
    | false => match Nat.beq j 157 with
    | true => w_S_isMark (f_S_isMark N)
    | false => fun _ _ => none), (fun _ _ _ => none), (fun _ _ _ => none), (fun j => match Nat.beq j 19 with
    | true => w_Ledger_addRow (f_Ledger_addRow N)
    | false => fun _ _ => none))
def D_S_row (N : Nat) (n pc : Nat) (lv : ML) (st : List MV) (h : MH) : Option (Int32 × MH) :=
  match Nat.beq pc 0 with
  | true => (match lk lv 0, lk lv 1, lk lv 2, lk lv 3, lk lv 4, lk lv 5, st with
    | some (.inr (.inr (0, 11, 1))), some (.inl a1), some (.inl a2), some (.inl a3), some (.inl a4), some (.inl a5), [] => f_S_row N a1 a2 a3 a4 a5 h
    | _, _, _, _, _, _, _ => none)
  | false => none
set_option maxRecDepth 1000000 in
theorem E_S_row_0 (N : Nat) (n : Nat) (a1 : Int32) (a2 : Int32) (a3 : Int32) (a4 : Int32) (a5 : Int32) (h : MH) : seg (C_S_row N) 6 1 rI T_S_row [0] (fun q lv st h => match Nat.ble 1 q with
    | true => D_S_row N n q lv st h
    | false => none) 400 true 0 [(0, .inr (.inr (0, 11, 1))), (1, .inl a1), (2, .inl a2), (3, .inl a3), (4, .inl a4), (5, .inl a5)] [] h = f_S_row N a1 a2 a3 a4 a5 h := (rfl)
set_option maxRecDepth 1000000 in
theorem chk_S_row : chkT 11 false prog_1_method_14_code T_S_row = true := by decide +kernel
theorem mc_S_row : mC 121 = prog_1_method_14_code := by rfl
theorem mx_S_row : mL 121 = 6 ∧ mR 121 = some .boolean ∧ mK 121 = 1 ∧ (mN 121).cls = cN 11 := by decide +kernel
theorem hD_S_row (N : Nat) {r : Int32 × MH} : ∀ n pc lv st h, D_S_row N n pc lv st h = some r → ∃ lv', (∀ q ∈ lv', q ∈ lv) ∧ seg (C_S_row N) 6 1 rI T_S_row [0] (fun q lv st h => match Nat.ble (pc + 1) q with
    | true => D_S_row N n q lv st h
    | false => none) 400 true pc lv' st h = some r := by
  intro n pc lv st h hf
  unfold D_S_row at hf
  split at hf
  · rename_i hb
    have hb := Nat.eq_of_beq_eq_true hb
    subst hb
    split at hf
    · rename_i y0 y1 y2 y3 y4 e0 e1 e2 e3 e4 e5
      exact ⟨_, (sub_cons e0 (sub_cons e1 (sub_cons e2 (sub_cons e3 (sub_cons e4 (sub_cons e5 sub_nil)))))), (E_S_row_0 N n _ _ _ _ _ h).trans hf⟩
    · cases hf
  · skip
    cases hf
theorem hM_S_row (N : Nat) {r : Int32 × MH} : ∀ n pc lv st h, D_S_row N n pc lv st h = some r → pc < 110 := by
  intro n pc lv st h hf
  unfold D_S_row at hf
  split at hf
  · rename_i hb
    rw [Nat.eq_of_beq_eq_true hb]
    decide
  · skip
    cases hf
theorem s_S_row {l : Launch} {E : EV} {N : Nat} {as : List MV} {h : MH} {r : Int32 × MH} (hf : w_S_row (f_S_row N) as h = some r) : SndM l E false 2 121 as h (some (.inl r.1)) r.2 := by
  unfold w_S_row at hf
  split at hf
  · obtain ⟨m1, m2, m3, m4⟩ := mx_S_row
    refine snd_of (C := C_S_row N) (own := 11) (rz := 1) (lim := 115) rI_eq m2 m4 pl_121 (TB_in _ cw_121 rfl) ⟨(fun _ => ⟨_, _, _, _, _, _, rfl, rfl, by rw [m4]; rfl⟩), (fun z => by rw [m3] at z; cases z)⟩ (fun z => by cases z) KDL_take rfl rfl (fun z => by cases z) (fun z => by cases z) (fun _ => rfl) (by rw [m1]; exact Nat.le_of_ble_eq_true rfl)
      (fun j as h x z => by
      dsimp only [C_S_row] at z
      cases hb : Nat.beq j 145 with
      | true =>
        have hb := Nat.eq_of_beq_eq_true hb
        subst hb
        exact ⟨0, by decide, (fun z => by cases z), s_S_allow z⟩
      | false =>
        rw [hb] at z
        dsimp only at z
        cases hb : Nat.beq j 147 with
        | true =>
          have hb := Nat.eq_of_beq_eq_true hb
          subst hb
          exact ⟨0, by decide, (fun z => by cases z), s_S_deny z⟩
        | false =>
          rw [hb] at z
          dsimp only at z
          cases hb : Nat.beq j 150 with
          | true =>
            have hb := Nat.eq_of_beq_eq_true hb
            subst hb
            exact ⟨0, by decide, (fun z => by cases z), s_S_isWithin z⟩
          | false =>
            rw [hb] at z
            dsimp only at z
            cases hb : Nat.beq j 153 with
            | true =>
              have hb := Nat.eq_of_beq_eq_true hb
              subst hb
              exact ⟨1, by decide, (fun z => by cases z), s_S_isYear z⟩
            | false =>
              rw [hb] at z
              dsimp only at z
              cases hb : Nat.beq j 155 with
              | true =>
                have hb := Nat.eq_of_beq_eq_true hb
                subst hb
                exact ⟨1, by decide, (fun z => by cases z), s_S_isDay z⟩
              | false =>
                rw [hb] at z
                dsimp only at z
                cases hb : Nat.beq j 157 with
                | true =>
                  have hb := Nat.eq_of_beq_eq_true hb
                  subst hb
                  exact ⟨1, by decide, (fun z => by cases z), s_S_isMark z⟩
                | false =>
                  rw [hb] at z
                  dsimp only at z
                  cases z)
      (fun _ _ _ _ z => by cases z)
      (fun _ _ _ _ z => by cases z)
      (fun j as h x z => by
      dsimp only [C_S_row] at z
      cases hb : Nat.beq j 19 with
      | true =>
        have hb := Nat.eq_of_beq_eq_true hb
        subst hb
        exact ⟨0, by decide, (fun z => by cases z), s_Ledger_addRow z⟩
      | false =>
        rw [hb] at z
        dsimp only at z
        cases z)
      (fun p e R s m args below meth c Q n0 F hret => ?_)
    rw [m1] at F hret ⊢
    rw [mc_S_row] at F hret
    exact cuts_s (K := 400) (M := 110) (D := D_S_row N) (B := fun _ _ _ _ _ => none) F hret (chkT_ok chk_S_row) (hM_S_row N) (fun _ _ _ _ _ z => by cases z) (hD_S_row N) N 0 _ _ _ hf
  · cases hf
def T_S_offset : List (List (Option RW)) := [
  [some (.aload_n 0, 1, [0], 0, 0), some (.iload_n 1, 1, [1], 0, 0), some (.invokevirtual 198, 3, [0, 157, 2, 0], 0, 0), none, none, some (.ifCond .eq 23, 3, [28], 0, 0), none, none, some (.iload_n 2, 1, [2], 0, 0), some (.invokestatic 204, 3, [2, 153, 1, 0], 0, 0), none, none, some (.ifCond .eq 16, 3, [28], 0, 0), none, none, some (.iload_n 3, 1, [3], 0, 0), some (.sipush (-2000), 3, [], (-2000), 0), none, none, some (.sipush 2000, 3, [], 2000, 0), none, none, some (.invokestatic 207, 3, [2, 150, 3, 0], 0, 0), none, none, some (.ifCond .ne 9, 3, [34], 0, 0), none, none, some (.aload_n 0, 1, [0], 0, 0), some (.iconst 1, 1, [], 1, 0), some (.invokevirtual 109, 3, [0, 147, 2, 0], 0, 0), none],
  [none, some (.ireturn, 1, [], 0, 0), some (.aload_n 0, 1, [0], 0, 0), some (.getfield 25, 3, [11, 2, 2, 0, 3, 15], 0, 0), none, none, some (.getfield 224, 3, [3, 9, 0], 0, 0), none, none, some (.bipush 20, 2, [], 20, 0), none, some (.if_icmp .lt 9, 3, [52], 0, 0), none, none, some (.aload_n 0, 1, [0], 0, 0), some (.iconst 4, 1, [], 4, 0), some (.invokevirtual 109, 3, [0, 147, 2, 0], 0, 0), none, none, some (.ireturn, 1, [], 0, 0), some (.aload_n 0, 1, [0], 0, 0), some (.getfield 25, 3, [11, 2, 2, 0, 3, 15], 0, 0), none, none, some (.iload_n 1, 1, [1], 0, 0), some (.iload_n 2, 1, [2], 0, 0), some (.iload_n 3, 1, [3], 0, 0), some (.invokevirtual 227, 3, [1, 20, 4, 3], 0, 0), none, none, some (.aload_n 0, 1, [0], 0, 0), some (.invokevirtual 116, 3, [0, 145, 1, 0], 0, 0)],
  [none, none, some (.ireturn, 1, [], 0, 0)]]
def f_S_offset (N : Nat) (a1 : Int32) (a2 : Int32) (a3 : Int32) (h : MH) : Option (Int32 × MH) :=
  (f_S_isMark N a1 h).bind (fun x1 =>
  if x1.1 = 0 then
  ((f_S_deny N 1 x1.2).bind (fun x2 =>
  match narOK 1 x2.1 with
  | true => some (x2.1, x2.2)
  | false => none))
  else
  ((f_S_isYear N a2 x1.2).bind (fun x3 =>
  if x3.1 = 0 then
  ((f_S_deny N 1 x3.2).bind (fun x4 =>
  match narOK 1 x4.1 with
  | true => some (x4.1, x4.2)
  | false => none))
  else
  ((f_S_isWithin N a3 ((-2000)) 2000 x3.2).bind (fun x5 =>
  if x5.1 = 0 then
  ((f_S_deny N 1 x5.2).bind (fun x6 =>
  match narOK 1 x6.1 with
  | true => some (x6.1, x6.2)
  | false => none))
  else
  (if (gI x5.2 16 9) < 20 then
  ((f_Ledger_addOffset N a1 a2 a3 x5.2).bind (fun x7 =>
  (f_S_allow N x7).bind (fun x8 =>
  match narOK 1 x8.1 with
  | true => some (x8.1, x8.2)
  | false => none)))
  else
  ((f_S_deny N 4 x5.2).bind (fun x9 =>
  match narOK 1 x9.1 with
  | true => some (x9.1, x9.2)
  | false => none))))))))
def C_S_offset (N : Nat) : MC := (KDL, false, (fun _ => 0), jsB, (fun j => match Nat.beq j 145 with
    | true => w_S_allow (f_S_allow N)
    | false => match Nat.beq j 147 with
    | true => w_S_deny (f_S_deny N)
    | false => match Nat.beq j 150 with
    | true => w_S_isWithin (f_S_isWithin N)
    | false => match Nat.beq j 153 with
    | true => w_S_isYear (f_S_isYear N)
    | false => match Nat.beq j 157 with
    | true => w_S_isMark (f_S_isMark N)
    | false => fun _ _ => none), (fun _ _ _ => none), (fun _ _ _ => none), (fun j => match Nat.beq j 20 with
    | true => w_Ledger_addOffset (f_Ledger_addOffset N)
    | false => fun _ _ => none))
def D_S_offset (N : Nat) (n pc : Nat) (lv : ML) (st : List MV) (h : MH) : Option (Int32 × MH) :=
  match Nat.beq pc 0 with
  | true => (match lk lv 0, lk lv 1, lk lv 2, lk lv 3, st with
    | some (.inr (.inr (0, 11, 1))), some (.inl a1), some (.inl a2), some (.inl a3), [] => f_S_offset N a1 a2 a3 h
    | _, _, _, _, _ => none)
  | false => none
set_option maxRecDepth 1000000 in
theorem E_S_offset_0 (N : Nat) (n : Nat) (a1 : Int32) (a2 : Int32) (a3 : Int32) (h : MH) : seg (C_S_offset N) 4 1 rI T_S_offset [0] (fun q lv st h => match Nat.ble 1 q with
    | true => D_S_offset N n q lv st h
    | false => none) 400 true 0 [(0, .inr (.inr (0, 11, 1))), (1, .inl a1), (2, .inl a2), (3, .inl a3)] [] h = f_S_offset N a1 a2 a3 h := (rfl)
set_option maxRecDepth 1000000 in
theorem chk_S_offset : chkT 11 false prog_1_method_15_code T_S_offset = true := by decide +kernel
theorem mc_S_offset : mC 122 = prog_1_method_15_code := by rfl
theorem mx_S_offset : mL 122 = 4 ∧ mR 122 = some .boolean ∧ mK 122 = 1 ∧ (mN 122).cls = cN 11 := by decide +kernel
theorem hD_S_offset (N : Nat) {r : Int32 × MH} : ∀ n pc lv st h, D_S_offset N n pc lv st h = some r → ∃ lv', (∀ q ∈ lv', q ∈ lv) ∧ seg (C_S_offset N) 4 1 rI T_S_offset [0] (fun q lv st h => match Nat.ble (pc + 1) q with
    | true => D_S_offset N n q lv st h
    | false => none) 400 true pc lv' st h = some r := by
  intro n pc lv st h hf
  unfold D_S_offset at hf
  split at hf
  · rename_i hb
    have hb := Nat.eq_of_beq_eq_true hb
    subst hb
    split at hf
    · rename_i y0 y1 y2 e0 e1 e2 e3
      exact ⟨_, (sub_cons e0 (sub_cons e1 (sub_cons e2 (sub_cons e3 sub_nil)))), (E_S_offset_0 N n _ _ _ h).trans hf⟩
    · cases hf
  · skip
    cases hf
theorem hM_S_offset (N : Nat) {r : Int32 × MH} : ∀ n pc lv st h, D_S_offset N n pc lv st h = some r → pc < 67 := by
  intro n pc lv st h hf
  unfold D_S_offset at hf
  split at hf
  · rename_i hb
    rw [Nat.eq_of_beq_eq_true hb]
    decide
  · skip
    cases hf
theorem s_S_offset {l : Launch} {E : EV} {N : Nat} {as : List MV} {h : MH} {r : Int32 × MH} (hf : w_S_offset (f_S_offset N) as h = some r) : SndM l E false 2 122 as h (some (.inl r.1)) r.2 := by
  unfold w_S_offset at hf
  split at hf
  · obtain ⟨m1, m2, m3, m4⟩ := mx_S_offset
    refine snd_of (C := C_S_offset N) (own := 11) (rz := 1) (lim := 115) rI_eq m2 m4 pl_122 (TB_in _ cw_122 rfl) ⟨(fun _ => ⟨_, _, _, _, _, _, rfl, rfl, by rw [m4]; rfl⟩), (fun z => by rw [m3] at z; cases z)⟩ (fun z => by cases z) KDL_take rfl rfl (fun z => by cases z) (fun z => by cases z) (fun _ => rfl) (by rw [m1]; exact Nat.le_of_ble_eq_true rfl)
      (fun j as h x z => by
      dsimp only [C_S_offset] at z
      cases hb : Nat.beq j 145 with
      | true =>
        have hb := Nat.eq_of_beq_eq_true hb
        subst hb
        exact ⟨0, by decide, (fun z => by cases z), s_S_allow z⟩
      | false =>
        rw [hb] at z
        dsimp only at z
        cases hb : Nat.beq j 147 with
        | true =>
          have hb := Nat.eq_of_beq_eq_true hb
          subst hb
          exact ⟨0, by decide, (fun z => by cases z), s_S_deny z⟩
        | false =>
          rw [hb] at z
          dsimp only at z
          cases hb : Nat.beq j 150 with
          | true =>
            have hb := Nat.eq_of_beq_eq_true hb
            subst hb
            exact ⟨0, by decide, (fun z => by cases z), s_S_isWithin z⟩
          | false =>
            rw [hb] at z
            dsimp only at z
            cases hb : Nat.beq j 153 with
            | true =>
              have hb := Nat.eq_of_beq_eq_true hb
              subst hb
              exact ⟨1, by decide, (fun z => by cases z), s_S_isYear z⟩
            | false =>
              rw [hb] at z
              dsimp only at z
              cases hb : Nat.beq j 157 with
              | true =>
                have hb := Nat.eq_of_beq_eq_true hb
                subst hb
                exact ⟨1, by decide, (fun z => by cases z), s_S_isMark z⟩
              | false =>
                rw [hb] at z
                dsimp only at z
                cases z)
      (fun _ _ _ _ z => by cases z)
      (fun _ _ _ _ z => by cases z)
      (fun j as h x z => by
      dsimp only [C_S_offset] at z
      cases hb : Nat.beq j 20 with
      | true =>
        have hb := Nat.eq_of_beq_eq_true hb
        subst hb
        exact ⟨0, by decide, (fun z => by cases z), s_Ledger_addOffset z⟩
      | false =>
        rw [hb] at z
        dsimp only at z
        cases z)
      (fun p e R s m args below meth c Q n0 F hret => ?_)
    rw [m1] at F hret ⊢
    rw [mc_S_offset] at F hret
    exact cuts_s (K := 400) (M := 67) (D := D_S_offset N) (B := fun _ _ _ _ _ => none) F hret (chkT_ok chk_S_offset) (hM_S_offset N) (fun _ _ _ _ _ z => by cases z) (hD_S_offset N) N 0 _ _ _ hf
  · cases hf
def T_S_asof : List (List (Option RW)) := [
  [some (.iload_n 1, 1, [1], 0, 0), some (.invokestatic 211, 3, [2, 155, 1, 0], 0, 0), none, none, some (.ifCond .ne 9, 3, [13], 0, 0), none, none, some (.aload_n 0, 1, [0], 0, 0), some (.iconst 1, 1, [], 1, 0), some (.invokevirtual 109, 3, [0, 147, 2, 0], 0, 0), none, none, some (.ireturn, 1, [], 0, 0), some (.aload_n 0, 1, [0], 0, 0), some (.getfield 25, 3, [11, 2, 2, 0, 3, 15], 0, 0), none, none, some (.iload_n 1, 1, [1], 0, 0), some (.putfield 231, 3, [3, 11, 0], 0, 0), none, none, some (.aload_n 0, 1, [0], 0, 0), some (.invokevirtual 116, 3, [0, 145, 1, 0], 0, 0), none, none, some (.ireturn, 1, [], 0, 0)]]
def f_S_asof (N : Nat) (a1 : Int32) (h : MH) : Option (Int32 × MH) :=
  (f_S_isDay N a1 h).bind (fun x1 =>
  if x1.1 = 0 then
  ((f_S_deny N 1 x1.2).bind (fun x2 =>
  match narOK 1 x2.1 with
  | true => some (x2.1, x2.2)
  | false => none))
  else
  (let h3 : MH := sI x1.2 16 11 a1
  (f_S_allow N h3).bind (fun x4 =>
  match narOK 1 x4.1 with
  | true => some (x4.1, x4.2)
  | false => none)))
def C_S_asof (N : Nat) : MC := (KDL, false, (fun _ => 0), jsB, (fun j => match Nat.beq j 145 with
    | true => w_S_allow (f_S_allow N)
    | false => match Nat.beq j 147 with
    | true => w_S_deny (f_S_deny N)
    | false => match Nat.beq j 155 with
    | true => w_S_isDay (f_S_isDay N)
    | false => fun _ _ => none), (fun _ _ _ => none), (fun _ _ _ => none), (fun _ _ _ => none))
def D_S_asof (N : Nat) (n pc : Nat) (lv : ML) (st : List MV) (h : MH) : Option (Int32 × MH) :=
  match Nat.beq pc 0 with
  | true => (match lk lv 0, lk lv 1, st with
    | some (.inr (.inr (0, 11, 1))), some (.inl a1), [] => f_S_asof N a1 h
    | _, _, _ => none)
  | false => none
set_option maxRecDepth 1000000 in
theorem E_S_asof_0 (N : Nat) (n : Nat) (a1 : Int32) (h : MH) : seg (C_S_asof N) 2 1 rI T_S_asof [0] (fun q lv st h => match Nat.ble 1 q with
    | true => D_S_asof N n q lv st h
    | false => none) 400 true 0 [(0, .inr (.inr (0, 11, 1))), (1, .inl a1)] [] h = f_S_asof N a1 h := (rfl)
set_option maxRecDepth 1000000 in
theorem chk_S_asof : chkT 11 false prog_1_method_16_code T_S_asof = true := by decide +kernel
theorem mc_S_asof : mC 123 = prog_1_method_16_code := by rfl
theorem mx_S_asof : mL 123 = 2 ∧ mR 123 = some .boolean ∧ mK 123 = 1 ∧ (mN 123).cls = cN 11 := by decide +kernel
theorem hD_S_asof (N : Nat) {r : Int32 × MH} : ∀ n pc lv st h, D_S_asof N n pc lv st h = some r → ∃ lv', (∀ q ∈ lv', q ∈ lv) ∧ seg (C_S_asof N) 2 1 rI T_S_asof [0] (fun q lv st h => match Nat.ble (pc + 1) q with
    | true => D_S_asof N n q lv st h
    | false => none) 400 true pc lv' st h = some r := by
  intro n pc lv st h hf
  unfold D_S_asof at hf
  split at hf
  · rename_i hb
    have hb := Nat.eq_of_beq_eq_true hb
    subst hb
    split at hf
    · rename_i y0 e0 e1
      exact ⟨_, (sub_cons e0 (sub_cons e1 sub_nil)), (E_S_asof_0 N n _ h).trans hf⟩
    · cases hf
  · skip
    cases hf
theorem hM_S_asof (N : Nat) {r : Int32 × MH} : ∀ n pc lv st h, D_S_asof N n pc lv st h = some r → pc < 26 := by
  intro n pc lv st h hf
  unfold D_S_asof at hf
  split at hf
  · rename_i hb
    rw [Nat.eq_of_beq_eq_true hb]
    decide
  · skip
    cases hf
theorem s_S_asof {l : Launch} {E : EV} {N : Nat} {as : List MV} {h : MH} {r : Int32 × MH} (hf : w_S_asof (f_S_asof N) as h = some r) : SndM l E false 2 123 as h (some (.inl r.1)) r.2 := by
  unfold w_S_asof at hf
  split at hf
  · obtain ⟨m1, m2, m3, m4⟩ := mx_S_asof
    refine snd_of (C := C_S_asof N) (own := 11) (rz := 1) (lim := 115) rI_eq m2 m4 pl_123 (TB_in _ cw_123 rfl) ⟨(fun _ => ⟨_, _, _, _, _, _, rfl, rfl, by rw [m4]; rfl⟩), (fun z => by rw [m3] at z; cases z)⟩ (fun z => by cases z) KDL_take rfl rfl (fun z => by cases z) (fun z => by cases z) (fun _ => rfl) (by rw [m1]; exact Nat.le_of_ble_eq_true rfl)
      (fun j as h x z => by
      dsimp only [C_S_asof] at z
      cases hb : Nat.beq j 145 with
      | true =>
        have hb := Nat.eq_of_beq_eq_true hb
        subst hb
        exact ⟨0, by decide, (fun z => by cases z), s_S_allow z⟩
      | false =>
        rw [hb] at z
        dsimp only at z
        cases hb : Nat.beq j 147 with
        | true =>
          have hb := Nat.eq_of_beq_eq_true hb
          subst hb
          exact ⟨0, by decide, (fun z => by cases z), s_S_deny z⟩
        | false =>
          rw [hb] at z
          dsimp only at z
          cases hb : Nat.beq j 155 with
          | true =>
            have hb := Nat.eq_of_beq_eq_true hb
            subst hb
            exact ⟨1, by decide, (fun z => by cases z), s_S_isDay z⟩
          | false =>
            rw [hb] at z
            dsimp only at z
            cases z)
      (fun _ _ _ _ z => by cases z)
      (fun _ _ _ _ z => by cases z)
      (fun _ _ _ _ z => by cases z)
      (fun p e R s m args below meth c Q n0 F hret => ?_)
    rw [m1] at F hret ⊢
    rw [mc_S_asof] at F hret
    exact cuts_s (K := 400) (M := 26) (D := D_S_asof N) (B := fun _ _ _ _ _ => none) F hret (chkT_ok chk_S_asof) (hM_S_asof N) (fun _ _ _ _ _ z => by cases z) (hD_S_asof N) N 0 _ _ _ hf
  · cases hf
def T_S_value : List (List (Option RW)) := [
  [some (.aload_n 0, 1, [0], 0, 0), some (.iload_n 1, 1, [1], 0, 0), some (.invokevirtual 198, 3, [0, 157, 2, 0], 0, 0), none, none, some (.ifCond .eq 18, 3, [23], 0, 0), none, none, some (.iload_n 2, 1, [2], 0, 0), some (.invokestatic 204, 3, [2, 153, 1, 0], 0, 0), none, none, some (.ifCond .eq 11, 3, [23], 0, 0), none, none, some (.iload_n 3, 1, [3], 0, 0), some (.iconst 2, 1, [], 2, 0), some (.invokestatic 186, 3, [2, 151, 2, 0], 0, 0), none, none, some (.ifCond .ne 9, 3, [29], 0, 0), none, none, some (.aload_n 0, 1, [0], 0, 0), some (.iconst 1, 1, [], 1, 0), some (.invokevirtual 128, 3, [0, 146, 2, 0], 0, 0), none, none, some (.ireturn, 1, [], 0, 0), some (.aload_n 0, 1, [0], 0, 0), some (.getfield 25, 3, [11, 2, 2, 0, 3, 15], 0, 0), none],
  [none, some (.iload_n 1, 1, [1], 0, 0), some (.invokevirtual 234, 3, [1, 22, 2, 3], 0, 0), none, none, some (.aload_n 0, 1, [0], 0, 0), some (.getfield 25, 3, [11, 2, 2, 0, 3, 15], 0, 0), none, none, some (.getfield 237, 3, [3, 12, 2, 4, 20, 9], 0, 0), none, none, some (.iload_n 2, 1, [2], 0, 0), some (.baload, 1, [], 0, 0), some (.ifCond .ne 10, 3, [56], 0, 0), none, none, some (.aload_n 0, 1, [0], 0, 0), some (.bipush 6, 2, [], 6, 0), none, some (.invokevirtual 128, 3, [0, 146, 2, 0], 0, 0), none, none, some (.ireturn, 1, [], 0, 0), some (.aload_n 0, 1, [0], 0, 0), some (.iload_n 3, 1, [3], 0, 0), some (.ifCond .ne 15, 3, [73], 0, 0), none, none, some (.aload_n 0, 1, [0], 0, 0), some (.getfield 25, 3, [11, 2, 2, 0, 3, 15], 0, 0), none],
  [none, some (.getfield 241, 3, [3, 13, 2, 1, 20, 10], 0, 0), none, none, some (.iload_n 2, 1, [2], 0, 0), some (.iaload, 1, [], 0, 0), some (.goto 12, 3, [82], 0, 0), none, none, some (.aload_n 0, 1, [0], 0, 0), some (.getfield 25, 3, [11, 2, 2, 0, 3, 15], 0, 0), none, none, some (.getfield 245, 3, [3, 14, 2, 1, 20, 11], 0, 0), none, none, some (.iload_n 2, 1, [2], 0, 0), some (.iaload, 1, [], 0, 0), some (.invokevirtual 183, 3, [0, 144, 2, 0], 0, 0), none, none, some (.ireturn, 1, [], 0, 0)]]
def f_S_value (N : Nat) (a1 : Int32) (a2 : Int32) (a3 : Int32) (h : MH) : Option (Int32 × MH) :=
  (f_S_isMark N a1 h).bind (fun x1 =>
  if x1.1 = 0 then
  ((f_S_refuse N 1 x1.2).bind (fun x2 =>
  some (x2.1, x2.2)))
  else
  ((f_S_isYear N a2 x1.2).bind (fun x3 =>
  if x3.1 = 0 then
  ((f_S_refuse N 1 x3.2).bind (fun x4 =>
  some (x4.1, x4.2)))
  else
  ((f_S_isOneOf N a3 2 x3.2).bind (fun x5 =>
  if x5.1 = 0 then
  ((f_S_refuse N 1 x5.2).bind (fun x6 =>
  some (x6.1, x6.2)))
  else
  ((f_Ledger_gather N a1 x5.2).bind (fun x7 =>
  if inB a2 20 = true then
  (if (gI x7 25 (iN a2)) = 0 then
  ((f_S_refuse N 6 x7).bind (fun x8 =>
  some (x8.1, x8.2)))
  else
  (if a3 = 0 then
  (if inB a2 20 = true then
  ((f_S_answer N (gI x7 26 (iN a2)) x7).bind (fun x9 =>
  some (x9.1, x9.2)))
  else none)
  else
  (if inB a2 20 = true then
  ((f_S_answer N (gI x7 27 (iN a2)) x7).bind (fun x10 =>
  some (x10.1, x10.2)))
  else none)))
  else none)))))))
def C_S_value (N : Nat) : MC := (KDL, false, (fun _ => 0), jsB, (fun j => match Nat.beq j 144 with
    | true => w_S_answer (f_S_answer N)
    | false => match Nat.beq j 146 with
    | true => w_S_refuse (f_S_refuse N)
    | false => match Nat.beq j 151 with
    | true => w_S_isOneOf (f_S_isOneOf N)
    | false => match Nat.beq j 153 with
    | true => w_S_isYear (f_S_isYear N)
    | false => match Nat.beq j 157 with
    | true => w_S_isMark (f_S_isMark N)
    | false => fun _ _ => none), (fun _ _ _ => none), (fun _ _ _ => none), (fun j => match Nat.beq j 22 with
    | true => w_Ledger_gather (f_Ledger_gather N)
    | false => fun _ _ => none))
def D_S_value (N : Nat) (n pc : Nat) (lv : ML) (st : List MV) (h : MH) : Option (Int32 × MH) :=
  match Nat.beq pc 0 with
  | true => (match lk lv 0, lk lv 1, lk lv 2, lk lv 3, st with
    | some (.inr (.inr (0, 11, 1))), some (.inl a1), some (.inl a2), some (.inl a3), [] => f_S_value N a1 a2 a3 h
    | _, _, _, _, _ => none)
  | false => none
set_option maxRecDepth 1000000 in
theorem E_S_value_0 (N : Nat) (n : Nat) (a1 : Int32) (a2 : Int32) (a3 : Int32) (h : MH) : seg (C_S_value N) 4 0 rI T_S_value [0] (fun q lv st h => match Nat.ble 1 q with
    | true => D_S_value N n q lv st h
    | false => none) 400 true 0 [(0, .inr (.inr (0, 11, 1))), (1, .inl a1), (2, .inl a2), (3, .inl a3)] [] h = f_S_value N a1 a2 a3 h := (rfl)
set_option maxRecDepth 1000000 in
theorem chk_S_value : chkT 11 false prog_1_method_17_code T_S_value = true := by decide +kernel
theorem mc_S_value : mC 124 = prog_1_method_17_code := by rfl
theorem mx_S_value : mL 124 = 4 ∧ mR 124 = some .int ∧ mK 124 = 1 ∧ (mN 124).cls = cN 11 := by decide +kernel
theorem hD_S_value (N : Nat) {r : Int32 × MH} : ∀ n pc lv st h, D_S_value N n pc lv st h = some r → ∃ lv', (∀ q ∈ lv', q ∈ lv) ∧ seg (C_S_value N) 4 0 rI T_S_value [0] (fun q lv st h => match Nat.ble (pc + 1) q with
    | true => D_S_value N n q lv st h
    | false => none) 400 true pc lv' st h = some r := by
  intro n pc lv st h hf
  unfold D_S_value at hf
  split at hf
  · rename_i hb
    have hb := Nat.eq_of_beq_eq_true hb
    subst hb
    split at hf
    · rename_i y0 y1 y2 e0 e1 e2 e3
      exact ⟨_, (sub_cons e0 (sub_cons e1 (sub_cons e2 (sub_cons e3 sub_nil)))), (E_S_value_0 N n _ _ _ h).trans hf⟩
    · cases hf
  · skip
    cases hf
theorem hM_S_value (N : Nat) {r : Int32 × MH} : ∀ n pc lv st h, D_S_value N n pc lv st h = some r → pc < 86 := by
  intro n pc lv st h hf
  unfold D_S_value at hf
  split at hf
  · rename_i hb
    rw [Nat.eq_of_beq_eq_true hb]
    decide
  · skip
    cases hf
theorem s_S_value {l : Launch} {E : EV} {N : Nat} {as : List MV} {h : MH} {r : Int32 × MH} (hf : w_S_value (f_S_value N) as h = some r) : SndM l E false 2 124 as h (some (.inl r.1)) r.2 := by
  unfold w_S_value at hf
  split at hf
  · obtain ⟨m1, m2, m3, m4⟩ := mx_S_value
    refine snd_of (C := C_S_value N) (own := 11) (rz := 0) (lim := 115) rI_eq m2 m4 pl_124 (TB_in _ cw_124 rfl) ⟨(fun _ => ⟨_, _, _, _, _, _, rfl, rfl, by rw [m4]; rfl⟩), (fun z => by rw [m3] at z; cases z)⟩ (fun z => by cases z) KDL_take rfl rfl (fun z => by cases z) (fun z => by cases z) (fun _ => rfl) (by rw [m1]; exact Nat.le_of_ble_eq_true rfl)
      (fun j as h x z => by
      dsimp only [C_S_value] at z
      cases hb : Nat.beq j 144 with
      | true =>
        have hb := Nat.eq_of_beq_eq_true hb
        subst hb
        exact ⟨0, by decide, (fun z => by cases z), s_S_answer z⟩
      | false =>
        rw [hb] at z
        dsimp only at z
        cases hb : Nat.beq j 146 with
        | true =>
          have hb := Nat.eq_of_beq_eq_true hb
          subst hb
          exact ⟨0, by decide, (fun z => by cases z), s_S_refuse z⟩
        | false =>
          rw [hb] at z
          dsimp only at z
          cases hb : Nat.beq j 151 with
          | true =>
            have hb := Nat.eq_of_beq_eq_true hb
            subst hb
            exact ⟨0, by decide, (fun z => by cases z), s_S_isOneOf z⟩
          | false =>
            rw [hb] at z
            dsimp only at z
            cases hb : Nat.beq j 153 with
            | true =>
              have hb := Nat.eq_of_beq_eq_true hb
              subst hb
              exact ⟨1, by decide, (fun z => by cases z), s_S_isYear z⟩
            | false =>
              rw [hb] at z
              dsimp only at z
              cases hb : Nat.beq j 157 with
              | true =>
                have hb := Nat.eq_of_beq_eq_true hb
                subst hb
                exact ⟨1, by decide, (fun z => by cases z), s_S_isMark z⟩
              | false =>
                rw [hb] at z
                dsimp only at z
                cases z)
      (fun _ _ _ _ z => by cases z)
      (fun _ _ _ _ z => by cases z)
      (fun j as h x z => by
      dsimp only [C_S_value] at z
      cases hb : Nat.beq j 22 with
      | true =>
        have hb := Nat.eq_of_beq_eq_true hb
        subst hb
        exact ⟨1, by decide, (fun z => by cases z), s_Ledger_gather z⟩
      | false =>
        rw [hb] at z
        dsimp only at z
        cases z)
      (fun p e R s m args below meth c Q n0 F hret => ?_)
    rw [m1] at F hret ⊢
    rw [mc_S_value] at F hret
    exact cuts_s (K := 400) (M := 86) (D := D_S_value N) (B := fun _ _ _ _ _ => none) F hret (chkT_ok chk_S_value) (hM_S_value N) (fun _ _ _ _ _ z => by cases z) (hD_S_value N) N 0 _ _ _ hf
  · cases hf
def T_S_commonDivisor : List (List (Option RW)) := [
  [some (.lload_n 0, 1, [0], 0, 0), some (.lstore 4, 2, [4], 0, 0), none, some (.lload_n 2, 1, [2], 0, 0), some (.lstore 6, 2, [6], 0, 0), none, some (.iconst 0, 1, [], 0, 0), some (.istore 8, 2, [8], 0, 0), none, some (.iload 8, 2, [8], 0, 0), none, some (.sipush 200, 3, [], 200, 0), none, none, some (.if_icmp .ge 31, 3, [45], 0, 0), none, none, some (.lload 6, 2, [6], 0, 0), none, some (.lconst 0, 1, [], 0, 0), some (.lcmp, 1, [], 0, 0), some (.ifCond .eq 24, 3, [45], 0, 0), none, none, some (.lload 4, 2, [4], 0, 0), none, some (.lload 6, 2, [6], 0, 0), none, some (.lrem, 1, [], 0, 0), some (.lstore 9, 2, [9], 0, 0), none, some (.lload 6, 2, [6], 0, 0)],
  [none, some (.lstore 4, 2, [4], 0, 0), none, some (.lload 9, 2, [9], 0, 0), none, some (.lstore 6, 2, [6], 0, 0), none, some (.iinc 8 1, 3, [8], 1, 0), none, none, some (.goto (-33), 3, [9], 0, 0), none, none, some (.lload 4, 2, [4], 0, 0), none, some (.lreturn, 1, [], 0, 0)]]
def F_S_commonDivisor_9 (N : Nat) (bk : (Int64 → Int64 → Int32 → MH → Option (Int64 × MH))) (a4 : Int64) (a6 : Int64) (a8 : Int32) (h : MH) : Option (Int64 × MH) :=
  if 200 ≤ a8 then
  (some (a4, h))
  else
  (if (lg_cmp a6 0) = 0 then
  (some (a4, h))
  else
  (if a6 = 0 then none else
  let v1 : Int64 := a4 - a4 / a6 * a6
  let v2 : Int32 := a8 + 1
  bk a6 v1 v2 h))
def F_S_commonDivisor_0 (N : Nat) (bk : (Int64 → Int64 → Int32 → MH → Option (Int64 × MH))) (a0 : Int64) (a2 : Int64) (h : MH) : Option (Int64 × MH) :=
  F_S_commonDivisor_9 N bk a0 a2 0 h
def L_S_commonDivisor (N : Nat) : Nat → (Int64 → Int64 → Int32 → MH → Option (Int64 × MH))
  | 0 => fun _ _ _ _ => none
  | n + 1 => F_S_commonDivisor_9 N (L_S_commonDivisor N n)
def f_S_commonDivisor (N : Nat) (a0 : Int64) (a2 : Int64) (h : MH) : Option (Int64 × MH) := F_S_commonDivisor_0 N (L_S_commonDivisor N N) a0 a2 h
def C_S_commonDivisor (N : Nat) : MC := (KDL, false, (fun _ => 0), jsB, (fun _ _ _ => none), (fun _ _ _ => none), (fun _ _ _ => none), (fun _ _ _ => none))
def D_S_commonDivisor (N : Nat) (n pc : Nat) (lv : ML) (st : List MV) (h : MH) : Option (Int64 × MH) :=
  match Nat.beq pc 0 with
  | true => (match lk lv 0, lk lv 2, st with
    | some (.inr (.inl a0)), some (.inr (.inl a2)), [] => F_S_commonDivisor_0 N (L_S_commonDivisor N n) a0 a2 h
    | _, _, _ => none)
  | false => match Nat.beq pc 9 with
  | true => (match lk lv 4, lk lv 6, lk lv 8, st with
    | some (.inr (.inl a4)), some (.inr (.inl a6)), some (.inl a8), [] => F_S_commonDivisor_9 N (L_S_commonDivisor N n) a4 a6 a8 h
    | _, _, _, _ => none)
  | false => none
def B_S_commonDivisor (N : Nat) (n pc : Nat) (lv : ML) (st : List MV) (h : MH) : Option (Int64 × MH) :=
  match Nat.beq pc 9 with
  | true => (match lk lv 4, lk lv 6, lk lv 8, st with
    | some (.inr (.inl a4)), some (.inr (.inl a6)), some (.inl a8), [] => ((L_S_commonDivisor N n)) a4 a6 a8 h
    | _, _, _, _ => none)
  | false => none
set_option maxRecDepth 1000000 in
theorem E_S_commonDivisor_0 (N : Nat) (n : Nat) (a0 : Int64) (a2 : Int64) (h : MH) : seg (C_S_commonDivisor N) 11 0 rJ T_S_commonDivisor [0, 9] (fun q lv st h => match Nat.ble 1 q with
    | true => D_S_commonDivisor N n q lv st h
    | false => B_S_commonDivisor N n q lv st h) 400 true 0 [(0, .inr (.inl a0)), (2, .inr (.inl a2))] [] h = F_S_commonDivisor_0 N (L_S_commonDivisor N n) a0 a2 h := (rfl)
set_option maxRecDepth 1000000 in
theorem E_S_commonDivisor_9 (N : Nat) (n : Nat) (a4 : Int64) (a6 : Int64) (a8 : Int32) (h : MH) : seg (C_S_commonDivisor N) 11 0 rJ T_S_commonDivisor [0, 9] (fun q lv st h => match Nat.ble 10 q with
    | true => D_S_commonDivisor N n q lv st h
    | false => B_S_commonDivisor N n q lv st h) 400 true 9 [(4, .inr (.inl a4)), (6, .inr (.inl a6)), (8, .inl a8)] [] h = F_S_commonDivisor_9 N (L_S_commonDivisor N n) a4 a6 a8 h := (rfl)
set_option maxRecDepth 1000000 in
theorem chk_S_commonDivisor : chkT 11 false prog_1_method_42_code T_S_commonDivisor = true := by decide +kernel
theorem mc_S_commonDivisor : mC 149 = prog_1_method_42_code := by rfl
theorem mx_S_commonDivisor : mL 149 = 11 ∧ mR 149 = some .long ∧ mK 149 = 0 ∧ (mN 149).cls = cN 11 := by decide +kernel
theorem hD_S_commonDivisor (N : Nat) {r : Int64 × MH} : ∀ n pc lv st h, D_S_commonDivisor N n pc lv st h = some r → ∃ lv', (∀ q ∈ lv', q ∈ lv) ∧ seg (C_S_commonDivisor N) 11 0 rJ T_S_commonDivisor [0, 9] (fun q lv st h => match Nat.ble (pc + 1) q with
    | true => D_S_commonDivisor N n q lv st h
    | false => B_S_commonDivisor N n q lv st h) 400 true pc lv' st h = some r := by
  intro n pc lv st h hf
  unfold D_S_commonDivisor at hf
  split at hf
  · rename_i hb
    have hb := Nat.eq_of_beq_eq_true hb
    subst hb
    split at hf
    · rename_i y0 y1 e0 e1
      exact ⟨_, (sub_cons e0 (sub_cons e1 sub_nil)), (E_S_commonDivisor_0 N n _ _ h).trans hf⟩
    · cases hf
  · skip
    split at hf
    · rename_i hb
      have hb := Nat.eq_of_beq_eq_true hb
      subst hb
      split at hf
      · rename_i y0 y1 y2 e0 e1 e2
        exact ⟨_, (sub_cons e0 (sub_cons e1 (sub_cons e2 sub_nil))), (E_S_commonDivisor_9 N n _ _ _ h).trans hf⟩
      · cases hf
    · skip
      cases hf
theorem hM_S_commonDivisor (N : Nat) {r : Int64 × MH} : ∀ n pc lv st h, D_S_commonDivisor N n pc lv st h = some r → pc < 48 := by
  intro n pc lv st h hf
  unfold D_S_commonDivisor at hf
  split at hf
  · rename_i hb
    rw [Nat.eq_of_beq_eq_true hb]
    decide
  · skip
    split at hf
    · rename_i hb
      rw [Nat.eq_of_beq_eq_true hb]
      decide
    · skip
      cases hf
theorem hB_S_commonDivisor (N : Nat) {r : Int64 × MH} : ∀ n pc lv st h, B_S_commonDivisor N n pc lv st h = some r → ∃ k, n = k + 1 ∧ D_S_commonDivisor N k pc lv st h = some r := by
  intro n pc lv st h hf
  unfold B_S_commonDivisor at hf
  split at hf
  · rename_i hb
    have hb := Nat.eq_of_beq_eq_true hb
    subst hb
    cases n with
    | zero =>
      split at hf
      · cases hf
      · cases hf
    | succ k =>
      refine ⟨k, rfl, ?_⟩
      exact hf
  · skip
    cases hf
theorem s_S_commonDivisor {l : Launch} {E : EV} {N : Nat} {as : List MV} {h : MH} {r : Int64 × MH} (hf : w_S_commonDivisor (f_S_commonDivisor N) as h = some r) : SndM l E false 0 149 as h (some (.inr (.inl r.1))) r.2 := by
  unfold w_S_commonDivisor at hf
  split at hf
  · obtain ⟨m1, m2, m3, m4⟩ := mx_S_commonDivisor
    refine snd_of (C := C_S_commonDivisor N) (own := 11) (rz := 0) (lim := 115) rJ_eq m2 m4 pl_149 (TB_in _ cw_149 rfl) ⟨(fun z => by rw [m3] at z; cases z), (fun z => by rw [m3] at z; cases z)⟩ (fun z => by cases z) KDL_take rfl rfl (fun z => by cases z) (fun z => by cases z) (fun _ => rfl) (by rw [m1]; exact Nat.le_of_ble_eq_true rfl)
      (fun _ _ _ _ z => by cases z)
      (fun _ _ _ _ z => by cases z)
      (fun _ _ _ _ z => by cases z)
      (fun _ _ _ _ z => by cases z)
      (fun p e R s m args below meth c Q n0 F hret => ?_)
    rw [m1] at F hret ⊢
    rw [mc_S_commonDivisor] at F hret
    exact cuts_s (K := 400) (M := 48) (D := D_S_commonDivisor N) (B := B_S_commonDivisor N) F hret (chkT_ok chk_S_commonDivisor) (hM_S_commonDivisor N) (hB_S_commonDivisor N) (hD_S_commonDivisor N) N 0 _ _ _ hf
  · cases hf
def T_Long_signum : List (List (Option RW)) := [
  [some (.lload_n 0, 1, [0], 0, 0), some (.bipush 63, 2, [], 63, 0), none, some (.lshr, 1, [], 0, 0), some (.lload_n 0, 1, [0], 0, 0), some (.lneg, 1, [], 0, 0), some (.bipush 63, 2, [], 63, 0), none, some (.lushr, 1, [], 0, 0), some (.lor, 1, [], 0, 0), some (.l2i, 1, [], 0, 0), some (.ireturn, 1, [], 0, 0)]]
def f_Long_signum (N : Nat) (a0 : Int64) (h : MH) : Option (Int32 × MH) :=
  some (Int64.toInt32 ((a0 >>> (Int32.toInt64 63 &&& 63)) ||| ((Int64.toUInt64 (-a0) >>> ((Int32.toInt64 63).toUInt64 &&& Int64.toUInt64 63)).toInt64)), h)
def C_Long_signum (N : Nat) : MC := (KDL, false, (fun _ => 0), jsB, (fun _ _ _ => none), (fun _ _ _ => none), (fun _ _ _ => none), (fun _ _ _ => none))
def D_Long_signum (N : Nat) (n pc : Nat) (lv : ML) (st : List MV) (h : MH) : Option (Int32 × MH) :=
  match Nat.beq pc 0 with
  | true => (match lk lv 0, st with
    | some (.inr (.inl a0)), [] => f_Long_signum N a0 h
    | _, _ => none)
  | false => none
set_option maxRecDepth 1000000 in
theorem E_Long_signum_0 (N : Nat) (n : Nat) (a0 : Int64) (h : MH) : seg (C_Long_signum N) 2 0 rI T_Long_signum [0] (fun q lv st h => match Nat.ble 1 q with
    | true => D_Long_signum N n q lv st h
    | false => none) 400 true 0 [(0, .inr (.inl a0))] [] h = f_Long_signum N a0 h := (rfl)
set_option maxRecDepth 1000000 in
theorem chk_Long_signum : chkT 18 false prog_16_method_57_code T_Long_signum = true := by decide +kernel
theorem mc_Long_signum : mC 256 = prog_16_method_57_code := by rfl
theorem mx_Long_signum : mL 256 = 2 ∧ mR 256 = some .int ∧ mK 256 = 0 ∧ (mN 256).cls = cN 18 := by decide +kernel
theorem hD_Long_signum (N : Nat) {r : Int32 × MH} : ∀ n pc lv st h, D_Long_signum N n pc lv st h = some r → ∃ lv', (∀ q ∈ lv', q ∈ lv) ∧ seg (C_Long_signum N) 2 0 rI T_Long_signum [0] (fun q lv st h => match Nat.ble (pc + 1) q with
    | true => D_Long_signum N n q lv st h
    | false => none) 400 true pc lv' st h = some r := by
  intro n pc lv st h hf
  unfold D_Long_signum at hf
  split at hf
  · rename_i hb
    have hb := Nat.eq_of_beq_eq_true hb
    subst hb
    split at hf
    · rename_i y0 e0
      exact ⟨_, (sub_cons e0 sub_nil), (E_Long_signum_0 N n _ h).trans hf⟩
    · cases hf
  · skip
    cases hf
theorem hM_Long_signum (N : Nat) {r : Int32 × MH} : ∀ n pc lv st h, D_Long_signum N n pc lv st h = some r → pc < 12 := by
  intro n pc lv st h hf
  unfold D_Long_signum at hf
  split at hf
  · rename_i hb
    rw [Nat.eq_of_beq_eq_true hb]
    decide
  · skip
    cases hf
theorem s_Long_signum {l : Launch} {E : EV} {N : Nat} {as : List MV} {h : MH} {r : Int32 × MH} (hf : w_Long_signum (f_Long_signum N) as h = some r) : SndM l E false 0 256 as h (some (.inl r.1)) r.2 := by
  unfold w_Long_signum at hf
  split at hf
  · obtain ⟨m1, m2, m3, m4⟩ := mx_Long_signum
    refine snd_of (C := C_Long_signum N) (own := 18) (rz := 0) (lim := 115) rI_eq m2 m4 pl_256 (TB_in _ cw_256 rfl) ⟨(fun z => by rw [m3] at z; cases z), (fun z => by rw [m3] at z; cases z)⟩ (fun z => by cases z) KDL_take rfl rfl (fun z => by cases z) (fun z => by cases z) (fun _ => rfl) (by rw [m1]; exact Nat.le_of_ble_eq_true rfl)
      (fun _ _ _ _ z => by cases z)
      (fun _ _ _ _ z => by cases z)
      (fun _ _ _ _ z => by cases z)
      (fun _ _ _ _ z => by cases z)
      (fun p e R s m args below meth c Q n0 F hret => ?_)
    rw [m1] at F hret ⊢
    rw [mc_Long_signum] at F hret
    exact cuts_s (K := 400) (M := 12) (D := D_Long_signum N) (B := fun _ _ _ _ _ => none) F hret (chkT_ok chk_Long_signum) (hM_Long_signum N) (fun _ _ _ _ _ z => by cases z) (hD_Long_signum N) N 0 _ _ _ hf
  · cases hf
def T_Math_abs_J : List (List (Option RW)) := [
  [some (.lload_n 0, 1, [0], 0, 0), some (.lconst 0, 1, [], 0, 0), some (.lcmp, 1, [], 0, 0), some (.ifCond .ge 8, 3, [11], 0, 0), none, none, some (.lload_n 0, 1, [0], 0, 0), some (.lneg, 1, [], 0, 0), some (.goto 4, 3, [12], 0, 0), none, none, some (.lload_n 0, 1, [0], 0, 0), some (.lreturn, 1, [], 0, 0)]]
def f_Math_abs_J (N : Nat) (a0 : Int64) (h : MH) : Option (Int64 × MH) :=
  if 0 ≤ (lg_cmp a0 0) then
  (some (a0, h))
  else
  (some (-a0, h))
def C_Math_abs_J (N : Nat) : MC := (KDL, false, (fun _ => 0), jsB, (fun _ _ _ => none), (fun _ _ _ => none), (fun _ _ _ => none), (fun _ _ _ => none))
def D_Math_abs_J (N : Nat) (n pc : Nat) (lv : ML) (st : List MV) (h : MH) : Option (Int64 × MH) :=
  match Nat.beq pc 0 with
  | true => (match lk lv 0, st with
    | some (.inr (.inl a0)), [] => f_Math_abs_J N a0 h
    | _, _ => none)
  | false => none
set_option maxRecDepth 1000000 in
theorem E_Math_abs_J_0 (N : Nat) (n : Nat) (a0 : Int64) (h : MH) : seg (C_Math_abs_J N) 2 0 rJ T_Math_abs_J [0] (fun q lv st h => match Nat.ble 1 q with
    | true => D_Math_abs_J N n q lv st h
    | false => none) 400 true 0 [(0, .inr (.inl a0))] [] h = f_Math_abs_J N a0 h := (rfl)
set_option maxRecDepth 1000000 in
theorem chk_Math_abs_J : chkT 16 false prog_17_method_61_code T_Math_abs_J = true := by decide +kernel
theorem mc_Math_abs_J : mC 259 = prog_17_method_61_code := by rfl
theorem mx_Math_abs_J : mL 259 = 2 ∧ mR 259 = some .long ∧ mK 259 = 0 ∧ (mN 259).cls = cN 16 := by decide +kernel
theorem hD_Math_abs_J (N : Nat) {r : Int64 × MH} : ∀ n pc lv st h, D_Math_abs_J N n pc lv st h = some r → ∃ lv', (∀ q ∈ lv', q ∈ lv) ∧ seg (C_Math_abs_J N) 2 0 rJ T_Math_abs_J [0] (fun q lv st h => match Nat.ble (pc + 1) q with
    | true => D_Math_abs_J N n q lv st h
    | false => none) 400 true pc lv' st h = some r := by
  intro n pc lv st h hf
  unfold D_Math_abs_J at hf
  split at hf
  · rename_i hb
    have hb := Nat.eq_of_beq_eq_true hb
    subst hb
    split at hf
    · rename_i y0 e0
      exact ⟨_, (sub_cons e0 sub_nil), (E_Math_abs_J_0 N n _ h).trans hf⟩
    · cases hf
  · skip
    cases hf
theorem hM_Math_abs_J (N : Nat) {r : Int64 × MH} : ∀ n pc lv st h, D_Math_abs_J N n pc lv st h = some r → pc < 13 := by
  intro n pc lv st h hf
  unfold D_Math_abs_J at hf
  split at hf
  · rename_i hb
    rw [Nat.eq_of_beq_eq_true hb]
    decide
  · skip
    cases hf
theorem s_Math_abs_J {l : Launch} {E : EV} {N : Nat} {as : List MV} {h : MH} {r : Int64 × MH} (hf : w_Math_abs_J (f_Math_abs_J N) as h = some r) : SndM l E false 0 259 as h (some (.inr (.inl r.1))) r.2 := by
  unfold w_Math_abs_J at hf
  split at hf
  · obtain ⟨m1, m2, m3, m4⟩ := mx_Math_abs_J
    refine snd_of (C := C_Math_abs_J N) (own := 16) (rz := 0) (lim := 115) rJ_eq m2 m4 pl_259 (TB_in _ cw_259 rfl) ⟨(fun z => by rw [m3] at z; cases z), (fun z => by rw [m3] at z; cases z)⟩ (fun z => by cases z) KDL_take rfl rfl (fun z => by cases z) (fun z => by cases z) (fun _ => rfl) (by rw [m1]; exact Nat.le_of_ble_eq_true rfl)
      (fun _ _ _ _ z => by cases z)
      (fun _ _ _ _ z => by cases z)
      (fun _ _ _ _ z => by cases z)
      (fun _ _ _ _ z => by cases z)
      (fun p e R s m args below meth c Q n0 F hret => ?_)
    rw [m1] at F hret ⊢
    rw [mc_Math_abs_J] at F hret
    exact cuts_s (K := 400) (M := 13) (D := D_Math_abs_J N) (B := fun _ _ _ _ _ => none) F hret (chkT_ok chk_Math_abs_J) (hM_Math_abs_J N) (fun _ _ _ _ _ z => by cases z) (hD_Math_abs_J N) N 0 _ _ _ hf
  · cases hf
def T_S_tell : List (List (Option RW)) := [
  [some (.lload_n 1, 1, [1], 0, 0), some (.invokestatic 373, 3, [2, 259, 1, 1], 0, 0), none, none, some (.lload_n 3, 1, [3], 0, 0), some (.invokestatic 379, 3, [2, 149, 2, 1], 0, 0), none, none, some (.lstore 5, 2, [5], 0, 0), none, some (.lload 5, 2, [5], 0, 0), none, some (.lconst 0, 1, [], 0, 0), some (.lcmp, 1, [], 0, 0), some (.ifCond .le 19, 3, [33], 0, 0), none, none, some (.aload_n 0, 1, [0], 0, 0), some (.lload_n 1, 1, [1], 0, 0), some (.lload 5, 2, [5], 0, 0), none, some (.ldiv, 1, [], 0, 0), some (.putfield 71, 3, [11, 9, 1], 0, 0), none, none, some (.aload_n 0, 1, [0], 0, 0), some (.lload_n 3, 1, [3], 0, 0), some (.lload 5, 2, [5], 0, 0), none, some (.ldiv, 1, [], 0, 0), some (.putfield 75, 3, [11, 10, 1], 0, 0), none],
  [none, some (.aload_n 0, 1, [0], 0, 0), some (.aload_n 0, 1, [0], 0, 0), some (.getfield 71, 3, [11, 9, 1], 0, 0), none, none, some (.invokestatic 383, 3, [2, 256, 1, 0], 0, 0), none, none, some (.invokevirtual 183, 3, [0, 144, 2, 0], 0, 0), none, none, some (.ireturn, 1, [], 0, 0)]]
def f_S_tell (N : Nat) (a1 : Int64) (a3 : Int64) (h : MH) : Option (Int32 × MH) :=
  (f_Math_abs_J N a1 h).bind (fun x1 =>
  (f_S_commonDivisor N x1.1 a3 x1.2).bind (fun x2 =>
  if (lg_cmp x2.1 0) ≤ 0 then
  ((f_Long_signum N (gJ x2.2 1 9) x2.2).bind (fun x3 =>
  (f_S_answer N x3.1 x3.2).bind (fun x4 =>
  some (x4.1, x4.2))))
  else
  (if x2.1 = 0 then none else
  let h5 : MH := sJ x2.2 1 9 (a1 / x2.1)
  if x2.1 = 0 then none else
  let h6 : MH := sJ h5 1 10 (a3 / x2.1)
  (f_Long_signum N (gJ h6 1 9) h6).bind (fun x7 =>
  (f_S_answer N x7.1 x7.2).bind (fun x8 =>
  some (x8.1, x8.2))))))
def C_S_tell (N : Nat) : MC := (KDL, false, (fun _ => 0), jsB, (fun j => match Nat.beq j 144 with
    | true => w_S_answer (f_S_answer N)
    | false => match Nat.beq j 256 with
    | true => w_Long_signum (f_Long_signum N)
    | false => fun _ _ => none), (fun j => match Nat.beq j 149 with
    | true => w_S_commonDivisor (f_S_commonDivisor N)
    | false => match Nat.beq j 259 with
    | true => w_Math_abs_J (f_Math_abs_J N)
    | false => fun _ _ => none), (fun _ _ _ => none), (fun _ _ _ => none))
def D_S_tell (N : Nat) (n pc : Nat) (lv : ML) (st : List MV) (h : MH) : Option (Int32 × MH) :=
  match Nat.beq pc 0 with
  | true => (match lk lv 0, lk lv 1, lk lv 3, st with
    | some (.inr (.inr (0, 11, 1))), some (.inr (.inl a1)), some (.inr (.inl a3)), [] => f_S_tell N a1 a3 h
    | _, _, _, _ => none)
  | false => none
set_option maxRecDepth 1000000 in
theorem E_S_tell_0 (N : Nat) (n : Nat) (a1 : Int64) (a3 : Int64) (h : MH) : seg (C_S_tell N) 7 0 rI T_S_tell [0] (fun q lv st h => match Nat.ble 1 q with
    | true => D_S_tell N n q lv st h
    | false => none) 400 true 0 [(0, .inr (.inr (0, 11, 1))), (1, .inr (.inl a1)), (3, .inr (.inl a3))] [] h = f_S_tell N a1 a3 h := (rfl)
set_option maxRecDepth 1000000 in
theorem chk_S_tell : chkT 11 false prog_1_method_41_code T_S_tell = true := by decide +kernel
theorem mc_S_tell : mC 148 = prog_1_method_41_code := by rfl
theorem mx_S_tell : mL 148 = 7 ∧ mR 148 = some .int ∧ mK 148 = 1 ∧ (mN 148).cls = cN 11 := by decide +kernel
theorem hD_S_tell (N : Nat) {r : Int32 × MH} : ∀ n pc lv st h, D_S_tell N n pc lv st h = some r → ∃ lv', (∀ q ∈ lv', q ∈ lv) ∧ seg (C_S_tell N) 7 0 rI T_S_tell [0] (fun q lv st h => match Nat.ble (pc + 1) q with
    | true => D_S_tell N n q lv st h
    | false => none) 400 true pc lv' st h = some r := by
  intro n pc lv st h hf
  unfold D_S_tell at hf
  split at hf
  · rename_i hb
    have hb := Nat.eq_of_beq_eq_true hb
    subst hb
    split at hf
    · rename_i y0 y1 e0 e1 e2
      exact ⟨_, (sub_cons e0 (sub_cons e1 (sub_cons e2 sub_nil))), (E_S_tell_0 N n _ _ h).trans hf⟩
    · cases hf
  · skip
    cases hf
theorem hM_S_tell (N : Nat) {r : Int32 × MH} : ∀ n pc lv st h, D_S_tell N n pc lv st h = some r → pc < 45 := by
  intro n pc lv st h hf
  unfold D_S_tell at hf
  split at hf
  · rename_i hb
    rw [Nat.eq_of_beq_eq_true hb]
    decide
  · skip
    cases hf
theorem s_S_tell {l : Launch} {E : EV} {N : Nat} {as : List MV} {h : MH} {r : Int32 × MH} (hf : w_S_tell (f_S_tell N) as h = some r) : SndM l E false 1 148 as h (some (.inl r.1)) r.2 := by
  unfold w_S_tell at hf
  split at hf
  · obtain ⟨m1, m2, m3, m4⟩ := mx_S_tell
    refine snd_of (C := C_S_tell N) (own := 11) (rz := 0) (lim := 115) rI_eq m2 m4 pl_148 (TB_in _ cw_148 rfl) ⟨(fun _ => ⟨_, _, _, _, _, _, rfl, rfl, by rw [m4]; rfl⟩), (fun z => by rw [m3] at z; cases z)⟩ (fun z => by cases z) KDL_take rfl rfl (fun z => by cases z) (fun z => by cases z) (fun _ => rfl) (by rw [m1]; exact Nat.le_of_ble_eq_true rfl)
      (fun j as h x z => by
      dsimp only [C_S_tell] at z
      cases hb : Nat.beq j 144 with
      | true =>
        have hb := Nat.eq_of_beq_eq_true hb
        subst hb
        exact ⟨0, by decide, (fun z => by cases z), s_S_answer z⟩
      | false =>
        rw [hb] at z
        dsimp only at z
        cases hb : Nat.beq j 256 with
        | true =>
          have hb := Nat.eq_of_beq_eq_true hb
          subst hb
          exact ⟨0, by decide, (fun z => by cases z), s_Long_signum z⟩
        | false =>
          rw [hb] at z
          dsimp only at z
          cases z)
      (fun j as h x z => by
      dsimp only [C_S_tell] at z
      cases hb : Nat.beq j 149 with
      | true =>
        have hb := Nat.eq_of_beq_eq_true hb
        subst hb
        exact ⟨0, by decide, (fun z => by cases z), s_S_commonDivisor z⟩
      | false =>
        rw [hb] at z
        dsimp only at z
        cases hb : Nat.beq j 259 with
        | true =>
          have hb := Nat.eq_of_beq_eq_true hb
          subst hb
          exact ⟨0, by decide, (fun z => by cases z), s_Math_abs_J z⟩
        | false =>
          rw [hb] at z
          dsimp only at z
          cases z)
      (fun _ _ _ _ z => by cases z)
      (fun _ _ _ _ z => by cases z)
      (fun p e R s m args below meth c Q n0 F hret => ?_)
    rw [m1] at F hret ⊢
    rw [mc_S_tell] at F hret
    exact cuts_s (K := 400) (M := 45) (D := D_S_tell N) (B := fun _ _ _ _ _ => none) F hret (chkT_ok chk_S_tell) (hM_S_tell N) (fun _ _ _ _ _ z => by cases z) (hD_S_tell N) N 0 _ _ _ hf
  · cases hf
def T_S_line : List (List (Option RW)) := [
  [some (.aload_n 0, 1, [0], 0, 0), some (.iload_n 1, 1, [1], 0, 0), some (.invokevirtual 198, 3, [0, 157, 2, 0], 0, 0), none, none, some (.ifCond .eq 31, 3, [36], 0, 0), none, none, some (.iload_n 2, 1, [2], 0, 0), some (.invokestatic 204, 3, [2, 153, 1, 0], 0, 0), none, none, some (.ifCond .eq 24, 3, [36], 0, 0), none, none, some (.iload_n 3, 1, [3], 0, 0), some (.invokestatic 204, 3, [2, 153, 1, 0], 0, 0), none, none, some (.ifCond .eq 17, 3, [36], 0, 0), none, none, some (.iload_n 2, 1, [2], 0, 0), some (.iload_n 3, 1, [3], 0, 0), some (.if_icmp .gt 12, 3, [36], 0, 0), none, none, some (.iload 4, 2, [4], 0, 0), none, some (.iconst 2, 1, [], 2, 0), some (.invokestatic 186, 3, [2, 151, 2, 0], 0, 0), none],
  [none, some (.ifCond .ne 9, 3, [42], 0, 0), none, none, some (.aload_n 0, 1, [0], 0, 0), some (.iconst 1, 1, [], 1, 0), some (.invokevirtual 128, 3, [0, 146, 2, 0], 0, 0), none, none, some (.ireturn, 1, [], 0, 0), some (.aload_n 0, 1, [0], 0, 0), some (.getfield 25, 3, [11, 2, 2, 0, 3, 15], 0, 0), none, none, some (.iload_n 1, 1, [1], 0, 0), some (.invokevirtual 234, 3, [1, 22, 2, 3], 0, 0), none, none, some (.aload_n 0, 1, [0], 0, 0), some (.getfield 25, 3, [11, 2, 2, 0, 3, 15], 0, 0), none, none, some (.aload_n 0, 1, [0], 0, 0), some (.getfield 32, 3, [11, 3, 2, 0, 4, 27], 0, 0), none, none, some (.iload_n 2, 1, [2], 0, 0), some (.iload_n 3, 1, [3], 0, 0), some (.invokevirtual 248, 3, [1, 24, 4, 3], 0, 0), none, none, some (.aload_n 0, 1, [0], 0, 0)],
  [some (.getfield 32, 3, [11, 3, 2, 0, 4, 27], 0, 0), none, none, some (.invokevirtual 252, 3, [1, 32, 1, 0], 0, 0), none, none, some (.ifCond .ne 10, 3, [80], 0, 0), none, none, some (.aload_n 0, 1, [0], 0, 0), some (.bipush 6, 2, [], 6, 0), none, some (.invokevirtual 128, 3, [0, 146, 2, 0], 0, 0), none, none, some (.ireturn, 1, [], 0, 0), some (.iload 4, 2, [4], 0, 0), none, some (.ifCond .ne 22, 3, [104], 0, 0), none, none, some (.aload_n 0, 1, [0], 0, 0), some (.aload_n 0, 1, [0], 0, 0), some (.getfield 32, 3, [11, 3, 2, 0, 4, 27], 0, 0), none, none, some (.invokevirtual 255, 3, [1, 34, 1, 1], 0, 0), none, none, some (.aload_n 0, 1, [0], 0, 0), some (.getfield 32, 3, [11, 3, 2, 0, 4, 27], 0, 0), none],
  [none, some (.invokevirtual 259, 3, [1, 33, 1, 1], 0, 0), none, none, some (.invokevirtual 262, 3, [0, 148, 3, 0], 0, 0), none, none, some (.ireturn, 1, [], 0, 0), some (.aload_n 0, 1, [0], 0, 0), some (.aload_n 0, 1, [0], 0, 0), some (.getfield 32, 3, [11, 3, 2, 0, 4, 27], 0, 0), none, none, some (.invokevirtual 266, 3, [1, 35, 1, 1], 0, 0), none, none, some (.aload_n 0, 1, [0], 0, 0), some (.getfield 32, 3, [11, 3, 2, 0, 4, 27], 0, 0), none, none, some (.invokevirtual 269, 3, [1, 36, 1, 1], 0, 0), none, none, some (.invokevirtual 262, 3, [0, 148, 3, 0], 0, 0), none, none, some (.ireturn, 1, [], 0, 0)]]
def f_S_line (N : Nat) (a1 : Int32) (a2 : Int32) (a3 : Int32) (a4 : Int32) (h : MH) : Option (Int32 × MH) :=
  (f_S_isMark N a1 h).bind (fun x1 =>
  if x1.1 = 0 then
  ((f_S_refuse N 1 x1.2).bind (fun x2 =>
  some (x2.1, x2.2)))
  else
  ((f_S_isYear N a2 x1.2).bind (fun x3 =>
  if x3.1 = 0 then
  ((f_S_refuse N 1 x3.2).bind (fun x4 =>
  some (x4.1, x4.2)))
  else
  ((f_S_isYear N a3 x3.2).bind (fun x5 =>
  if x5.1 = 0 then
  ((f_S_refuse N 1 x5.2).bind (fun x6 =>
  some (x6.1, x6.2)))
  else
  (if a3 < a2 then
  ((f_S_refuse N 1 x5.2).bind (fun x7 =>
  some (x7.1, x7.2)))
  else
  ((f_S_isOneOf N a4 2 x5.2).bind (fun x8 =>
  if x8.1 = 0 then
  ((f_S_refuse N 1 x8.2).bind (fun x9 =>
  some (x9.1, x9.2)))
  else
  ((f_Ledger_gather N a1 x8.2).bind (fun x10 =>
  (f_Ledger_fit N a2 a3 x10).bind (fun x11 =>
  (f_Line_stands N x11).bind (fun x12 =>
  if x12.1 = 0 then
  ((f_S_refuse N 6 x12.2).bind (fun x13 =>
  some (x13.1, x13.2)))
  else
  (if a4 = 0 then
  ((f_Line_tilt N x12.2).bind (fun x14 =>
  (f_Line_spread N x14.2).bind (fun x15 =>
  (f_S_tell N x14.1 x15.1 x15.2).bind (fun x16 =>
  some (x16.1, x16.2)))))
  else
  ((f_Line_restTop N x12.2).bind (fun x17 =>
  (f_Line_restBottom N x17.2).bind (fun x18 =>
  (f_S_tell N x17.1 x18.1 x18.2).bind (fun x19 =>
  some (x19.1, x19.2))))))))))))))))))
def C_S_line (N : Nat) : MC := (KDL, false, (fun _ => 0), jsB, (fun j => match Nat.beq j 32 with
    | true => w_Line_stands (f_Line_stands N)
    | false => match Nat.beq j 146 with
    | true => w_S_refuse (f_S_refuse N)
    | false => match Nat.beq j 148 with
    | true => w_S_tell (f_S_tell N)
    | false => match Nat.beq j 151 with
    | true => w_S_isOneOf (f_S_isOneOf N)
    | false => match Nat.beq j 153 with
    | true => w_S_isYear (f_S_isYear N)
    | false => match Nat.beq j 157 with
    | true => w_S_isMark (f_S_isMark N)
    | false => fun _ _ => none), (fun j => match Nat.beq j 33 with
    | true => w_Line_spread (f_Line_spread N)
    | false => match Nat.beq j 34 with
    | true => w_Line_tilt (f_Line_tilt N)
    | false => match Nat.beq j 35 with
    | true => w_Line_restTop (f_Line_restTop N)
    | false => match Nat.beq j 36 with
    | true => w_Line_restBottom (f_Line_restBottom N)
    | false => fun _ _ => none), (fun _ _ _ => none), (fun j => match Nat.beq j 22 with
    | true => w_Ledger_gather (f_Ledger_gather N)
    | false => match Nat.beq j 24 with
    | true => w_Ledger_fit (f_Ledger_fit N)
    | false => fun _ _ => none))
def D_S_line (N : Nat) (n pc : Nat) (lv : ML) (st : List MV) (h : MH) : Option (Int32 × MH) :=
  match Nat.beq pc 0 with
  | true => (match lk lv 0, lk lv 1, lk lv 2, lk lv 3, lk lv 4, st with
    | some (.inr (.inr (0, 11, 1))), some (.inl a1), some (.inl a2), some (.inl a3), some (.inl a4), [] => f_S_line N a1 a2 a3 a4 h
    | _, _, _, _, _, _ => none)
  | false => none
set_option maxRecDepth 1000000 in
theorem E_S_line_0 (N : Nat) (n : Nat) (a1 : Int32) (a2 : Int32) (a3 : Int32) (a4 : Int32) (h : MH) : seg (C_S_line N) 5 0 rI T_S_line [0] (fun q lv st h => match Nat.ble 1 q with
    | true => D_S_line N n q lv st h
    | false => none) 400 true 0 [(0, .inr (.inr (0, 11, 1))), (1, .inl a1), (2, .inl a2), (3, .inl a3), (4, .inl a4)] [] h = f_S_line N a1 a2 a3 a4 h := (rfl)
set_option maxRecDepth 1000000 in
theorem chk_S_line : chkT 11 false prog_1_method_18_code T_S_line = true := by decide +kernel
theorem mc_S_line : mC 125 = prog_1_method_18_code := by rfl
theorem mx_S_line : mL 125 = 5 ∧ mR 125 = some .int ∧ mK 125 = 1 ∧ (mN 125).cls = cN 11 := by decide +kernel
theorem hD_S_line (N : Nat) {r : Int32 × MH} : ∀ n pc lv st h, D_S_line N n pc lv st h = some r → ∃ lv', (∀ q ∈ lv', q ∈ lv) ∧ seg (C_S_line N) 5 0 rI T_S_line [0] (fun q lv st h => match Nat.ble (pc + 1) q with
    | true => D_S_line N n q lv st h
    | false => none) 400 true pc lv' st h = some r := by
  intro n pc lv st h hf
  unfold D_S_line at hf
  split at hf
  · rename_i hb
    have hb := Nat.eq_of_beq_eq_true hb
    subst hb
    split at hf
    · rename_i y0 y1 y2 y3 e0 e1 e2 e3 e4
      exact ⟨_, (sub_cons e0 (sub_cons e1 (sub_cons e2 (sub_cons e3 (sub_cons e4 sub_nil))))), (E_S_line_0 N n _ _ _ _ h).trans hf⟩
    · cases hf
  · skip
    cases hf
theorem hM_S_line (N : Nat) {r : Int32 × MH} : ∀ n pc lv st h, D_S_line N n pc lv st h = some r → pc < 123 := by
  intro n pc lv st h hf
  unfold D_S_line at hf
  split at hf
  · rename_i hb
    rw [Nat.eq_of_beq_eq_true hb]
    decide
  · skip
    cases hf
theorem s_S_line {l : Launch} {E : EV} {N : Nat} {as : List MV} {h : MH} {r : Int32 × MH} (hf : w_S_line (f_S_line N) as h = some r) : SndM l E false 2 125 as h (some (.inl r.1)) r.2 := by
  unfold w_S_line at hf
  split at hf
  · obtain ⟨m1, m2, m3, m4⟩ := mx_S_line
    refine snd_of (C := C_S_line N) (own := 11) (rz := 0) (lim := 115) rI_eq m2 m4 pl_125 (TB_in _ cw_125 rfl) ⟨(fun _ => ⟨_, _, _, _, _, _, rfl, rfl, by rw [m4]; rfl⟩), (fun z => by rw [m3] at z; cases z)⟩ (fun z => by cases z) KDL_take rfl rfl (fun z => by cases z) (fun z => by cases z) (fun _ => rfl) (by rw [m1]; exact Nat.le_of_ble_eq_true rfl)
      (fun j as h x z => by
      dsimp only [C_S_line] at z
      cases hb : Nat.beq j 32 with
      | true =>
        have hb := Nat.eq_of_beq_eq_true hb
        subst hb
        exact ⟨0, by decide, (fun z => by cases z), s_Line_stands z⟩
      | false =>
        rw [hb] at z
        dsimp only at z
        cases hb : Nat.beq j 146 with
        | true =>
          have hb := Nat.eq_of_beq_eq_true hb
          subst hb
          exact ⟨0, by decide, (fun z => by cases z), s_S_refuse z⟩
        | false =>
          rw [hb] at z
          dsimp only at z
          cases hb : Nat.beq j 148 with
          | true =>
            have hb := Nat.eq_of_beq_eq_true hb
            subst hb
            exact ⟨1, by decide, (fun z => by cases z), s_S_tell z⟩
          | false =>
            rw [hb] at z
            dsimp only at z
            cases hb : Nat.beq j 151 with
            | true =>
              have hb := Nat.eq_of_beq_eq_true hb
              subst hb
              exact ⟨0, by decide, (fun z => by cases z), s_S_isOneOf z⟩
            | false =>
              rw [hb] at z
              dsimp only at z
              cases hb : Nat.beq j 153 with
              | true =>
                have hb := Nat.eq_of_beq_eq_true hb
                subst hb
                exact ⟨1, by decide, (fun z => by cases z), s_S_isYear z⟩
              | false =>
                rw [hb] at z
                dsimp only at z
                cases hb : Nat.beq j 157 with
                | true =>
                  have hb := Nat.eq_of_beq_eq_true hb
                  subst hb
                  exact ⟨1, by decide, (fun z => by cases z), s_S_isMark z⟩
                | false =>
                  rw [hb] at z
                  dsimp only at z
                  cases z)
      (fun j as h x z => by
      dsimp only [C_S_line] at z
      cases hb : Nat.beq j 33 with
      | true =>
        have hb := Nat.eq_of_beq_eq_true hb
        subst hb
        exact ⟨0, by decide, (fun z => by cases z), s_Line_spread z⟩
      | false =>
        rw [hb] at z
        dsimp only at z
        cases hb : Nat.beq j 34 with
        | true =>
          have hb := Nat.eq_of_beq_eq_true hb
          subst hb
          exact ⟨0, by decide, (fun z => by cases z), s_Line_tilt z⟩
        | false =>
          rw [hb] at z
          dsimp only at z
          cases hb : Nat.beq j 35 with
          | true =>
            have hb := Nat.eq_of_beq_eq_true hb
            subst hb
            exact ⟨1, by decide, (fun z => by cases z), s_Line_restTop z⟩
          | false =>
            rw [hb] at z
            dsimp only at z
            cases hb : Nat.beq j 36 with
            | true =>
              have hb := Nat.eq_of_beq_eq_true hb
              subst hb
              exact ⟨1, by decide, (fun z => by cases z), s_Line_restBottom z⟩
            | false =>
              rw [hb] at z
              dsimp only at z
              cases z)
      (fun _ _ _ _ z => by cases z)
      (fun j as h x z => by
      dsimp only [C_S_line] at z
      cases hb : Nat.beq j 22 with
      | true =>
        have hb := Nat.eq_of_beq_eq_true hb
        subst hb
        exact ⟨1, by decide, (fun z => by cases z), s_Ledger_gather z⟩
      | false =>
        rw [hb] at z
        dsimp only at z
        cases hb : Nat.beq j 24 with
        | true =>
          have hb := Nat.eq_of_beq_eq_true hb
          subst hb
          exact ⟨1, by decide, (fun z => by cases z), s_Ledger_fit z⟩
        | false =>
          rw [hb] at z
          dsimp only at z
          cases z)
      (fun p e R s m args below meth c Q n0 F hret => ?_)
    rw [m1] at F hret ⊢
    rw [mc_S_line] at F hret
    exact cuts_s (K := 400) (M := 123) (D := D_S_line N) (B := fun _ _ _ _ _ => none) F hret (chkT_ok chk_S_line) (hM_S_line N) (fun _ _ _ _ _ z => by cases z) (hD_S_line N) N 0 _ _ _ hf
  · cases hf
def T_S_breaks : List (List (Option RW)) := [
  [some (.aload_n 0, 1, [0], 0, 0), some (.iload_n 1, 1, [1], 0, 0), some (.invokevirtual 198, 3, [0, 157, 2, 0], 0, 0), none, none, some (.ifCond .ne 9, 3, [14], 0, 0), none, none, some (.aload_n 0, 1, [0], 0, 0), some (.iconst 1, 1, [], 1, 0), some (.invokevirtual 128, 3, [0, 146, 2, 0], 0, 0), none, none, some (.ireturn, 1, [], 0, 0), some (.aload_n 0, 1, [0], 0, 0), some (.getfield 25, 3, [11, 2, 2, 0, 3, 15], 0, 0), none, none, some (.iload_n 1, 1, [1], 0, 0), some (.invokevirtual 234, 3, [1, 22, 2, 3], 0, 0), none, none, some (.aload_n 0, 1, [0], 0, 0), some (.getfield 25, 3, [11, 2, 2, 0, 3, 15], 0, 0), none, none, some (.aload_n 0, 1, [0], 0, 0), some (.getfield 32, 3, [11, 3, 2, 0, 4, 27], 0, 0), none, none, some (.invokevirtual 272, 3, [1, 25, 2, 0], 0, 0), none],
  [none, some (.istore_n 2, 1, [2], 0, 0), some (.iload_n 2, 1, [2], 0, 0), some (.ifCond .ge 12, 3, [47], 0, 0), none, none, some (.aload_n 0, 1, [0], 0, 0), some (.bipush 6, 2, [], 6, 0), none, some (.invokevirtual 128, 3, [0, 146, 2, 0], 0, 0), none, none, some (.goto 8, 3, [52], 0, 0), none, none, some (.aload_n 0, 1, [0], 0, 0), some (.iload_n 2, 1, [2], 0, 0), some (.invokevirtual 183, 3, [0, 144, 2, 0], 0, 0), none, none, some (.ireturn, 1, [], 0, 0)]]
def f_S_breaks (N : Nat) (a1 : Int32) (h : MH) : Option (Int32 × MH) :=
  (f_S_isMark N a1 h).bind (fun x1 =>
  if x1.1 = 0 then
  ((f_S_refuse N 1 x1.2).bind (fun x2 =>
  some (x2.1, x2.2)))
  else
  ((f_Ledger_gather N a1 x1.2).bind (fun x3 =>
  (f_Ledger_breakYear N x3).bind (fun x4 =>
  if 0 ≤ x4.1 then
  ((f_S_answer N x4.1 x4.2).bind (fun x5 =>
  some (x5.1, x5.2)))
  else
  ((f_S_refuse N 6 x4.2).bind (fun x6 =>
  some (x6.1, x6.2)))))))
def C_S_breaks (N : Nat) : MC := (KDL, false, (fun _ => 0), jsB, (fun j => match Nat.beq j 25 with
    | true => w_Ledger_breakYear (f_Ledger_breakYear N)
    | false => match Nat.beq j 144 with
    | true => w_S_answer (f_S_answer N)
    | false => match Nat.beq j 146 with
    | true => w_S_refuse (f_S_refuse N)
    | false => match Nat.beq j 157 with
    | true => w_S_isMark (f_S_isMark N)
    | false => fun _ _ => none), (fun _ _ _ => none), (fun _ _ _ => none), (fun j => match Nat.beq j 22 with
    | true => w_Ledger_gather (f_Ledger_gather N)
    | false => fun _ _ => none))
def D_S_breaks (N : Nat) (n pc : Nat) (lv : ML) (st : List MV) (h : MH) : Option (Int32 × MH) :=
  match Nat.beq pc 0 with
  | true => (match lk lv 0, lk lv 1, st with
    | some (.inr (.inr (0, 11, 1))), some (.inl a1), [] => f_S_breaks N a1 h
    | _, _, _ => none)
  | false => none
set_option maxRecDepth 1000000 in
theorem E_S_breaks_0 (N : Nat) (n : Nat) (a1 : Int32) (h : MH) : seg (C_S_breaks N) 3 0 rI T_S_breaks [0] (fun q lv st h => match Nat.ble 1 q with
    | true => D_S_breaks N n q lv st h
    | false => none) 400 true 0 [(0, .inr (.inr (0, 11, 1))), (1, .inl a1)] [] h = f_S_breaks N a1 h := (rfl)
set_option maxRecDepth 1000000 in
theorem chk_S_breaks : chkT 11 false prog_1_method_19_code T_S_breaks = true := by decide +kernel
theorem mc_S_breaks : mC 126 = prog_1_method_19_code := by rfl
theorem mx_S_breaks : mL 126 = 3 ∧ mR 126 = some .int ∧ mK 126 = 1 ∧ (mN 126).cls = cN 11 := by decide +kernel
theorem hD_S_breaks (N : Nat) {r : Int32 × MH} : ∀ n pc lv st h, D_S_breaks N n pc lv st h = some r → ∃ lv', (∀ q ∈ lv', q ∈ lv) ∧ seg (C_S_breaks N) 3 0 rI T_S_breaks [0] (fun q lv st h => match Nat.ble (pc + 1) q with
    | true => D_S_breaks N n q lv st h
    | false => none) 400 true pc lv' st h = some r := by
  intro n pc lv st h hf
  unfold D_S_breaks at hf
  split at hf
  · rename_i hb
    have hb := Nat.eq_of_beq_eq_true hb
    subst hb
    split at hf
    · rename_i y0 e0 e1
      exact ⟨_, (sub_cons e0 (sub_cons e1 sub_nil)), (E_S_breaks_0 N n _ h).trans hf⟩
    · cases hf
  · skip
    cases hf
theorem hM_S_breaks (N : Nat) {r : Int32 × MH} : ∀ n pc lv st h, D_S_breaks N n pc lv st h = some r → pc < 53 := by
  intro n pc lv st h hf
  unfold D_S_breaks at hf
  split at hf
  · rename_i hb
    rw [Nat.eq_of_beq_eq_true hb]
    decide
  · skip
    cases hf
theorem s_S_breaks {l : Launch} {E : EV} {N : Nat} {as : List MV} {h : MH} {r : Int32 × MH} (hf : w_S_breaks (f_S_breaks N) as h = some r) : SndM l E false 4 126 as h (some (.inl r.1)) r.2 := by
  unfold w_S_breaks at hf
  split at hf
  · obtain ⟨m1, m2, m3, m4⟩ := mx_S_breaks
    refine snd_of (C := C_S_breaks N) (own := 11) (rz := 0) (lim := 115) rI_eq m2 m4 pl_126 (TB_in _ cw_126 rfl) ⟨(fun _ => ⟨_, _, _, _, _, _, rfl, rfl, by rw [m4]; rfl⟩), (fun z => by rw [m3] at z; cases z)⟩ (fun z => by cases z) KDL_take rfl rfl (fun z => by cases z) (fun z => by cases z) (fun _ => rfl) (by rw [m1]; exact Nat.le_of_ble_eq_true rfl)
      (fun j as h x z => by
      dsimp only [C_S_breaks] at z
      cases hb : Nat.beq j 25 with
      | true =>
        have hb := Nat.eq_of_beq_eq_true hb
        subst hb
        exact ⟨3, by decide, (fun z => by cases z), s_Ledger_breakYear z⟩
      | false =>
        rw [hb] at z
        dsimp only at z
        cases hb : Nat.beq j 144 with
        | true =>
          have hb := Nat.eq_of_beq_eq_true hb
          subst hb
          exact ⟨0, by decide, (fun z => by cases z), s_S_answer z⟩
        | false =>
          rw [hb] at z
          dsimp only at z
          cases hb : Nat.beq j 146 with
          | true =>
            have hb := Nat.eq_of_beq_eq_true hb
            subst hb
            exact ⟨0, by decide, (fun z => by cases z), s_S_refuse z⟩
          | false =>
            rw [hb] at z
            dsimp only at z
            cases hb : Nat.beq j 157 with
            | true =>
              have hb := Nat.eq_of_beq_eq_true hb
              subst hb
              exact ⟨1, by decide, (fun z => by cases z), s_S_isMark z⟩
            | false =>
              rw [hb] at z
              dsimp only at z
              cases z)
      (fun _ _ _ _ z => by cases z)
      (fun _ _ _ _ z => by cases z)
      (fun j as h x z => by
      dsimp only [C_S_breaks] at z
      cases hb : Nat.beq j 22 with
      | true =>
        have hb := Nat.eq_of_beq_eq_true hb
        subst hb
        exact ⟨1, by decide, (fun z => by cases z), s_Ledger_gather z⟩
      | false =>
        rw [hb] at z
        dsimp only at z
        cases z)
      (fun p e R s m args below meth c Q n0 F hret => ?_)
    rw [m1] at F hret ⊢
    rw [mc_S_breaks] at F hret
    exact cuts_s (K := 400) (M := 53) (D := D_S_breaks N) (B := fun _ _ _ _ _ => none) F hret (chkT_ok chk_S_breaks) (hM_S_breaks N) (fun _ _ _ _ _ z => by cases z) (hD_S_breaks N) N 0 _ _ _ hf
  · cases hf
def T_S_slow : List (List (Option RW)) := [
  [some (.aload_n 0, 1, [0], 0, 0), some (.iload_n 1, 1, [1], 0, 0), some (.invokevirtual 198, 3, [0, 157, 2, 0], 0, 0), none, none, some (.ifCond .eq 26, 3, [31], 0, 0), none, none, some (.iload_n 2, 1, [2], 0, 0), some (.iconst 2, 1, [], 2, 0), some (.bipush 10, 2, [], 10, 0), none, some (.invokestatic 207, 3, [2, 150, 3, 0], 0, 0), none, none, some (.ifCond .eq 16, 3, [31], 0, 0), none, none, some (.iload_n 3, 1, [3], 0, 0), some (.ifCond .lt 12, 3, [31], 0, 0), none, none, some (.iload 4, 2, [4], 0, 0), none, some (.iconst 3, 1, [], 3, 0), some (.invokestatic 186, 3, [2, 151, 2, 0], 0, 0), none, none, some (.ifCond .ne 9, 3, [37], 0, 0), none, none, some (.aload_n 0, 1, [0], 0, 0)],
  [some (.iconst 1, 1, [], 1, 0), some (.invokevirtual 128, 3, [0, 146, 2, 0], 0, 0), none, none, some (.ireturn, 1, [], 0, 0), some (.aload_n 0, 1, [0], 0, 0), some (.getfield 25, 3, [11, 2, 2, 0, 3, 15], 0, 0), none, none, some (.iload_n 1, 1, [1], 0, 0), some (.invokevirtual 234, 3, [1, 22, 2, 3], 0, 0), none, none, some (.aload_n 0, 1, [0], 0, 0), some (.getfield 25, 3, [11, 2, 2, 0, 3, 15], 0, 0), none, none, some (.aload_n 0, 1, [0], 0, 0), some (.getfield 32, 3, [11, 3, 2, 0, 4, 27], 0, 0), none, none, some (.iload_n 2, 1, [2], 0, 0), some (.iload_n 3, 1, [3], 0, 0), some (.iload 4, 2, [4], 0, 0), none, some (.invokevirtual 276, 3, [1, 27, 5, 0], 0, 0), none, none, some (.istore 5, 2, [5], 0, 0), none, some (.iload 5, 2, [5], 0, 0), none],
  [some (.ifCond .ge 12, 3, [76], 0, 0), none, none, some (.aload_n 0, 1, [0], 0, 0), some (.bipush 6, 2, [], 6, 0), none, some (.invokevirtual 128, 3, [0, 146, 2, 0], 0, 0), none, none, some (.goto 9, 3, [82], 0, 0), none, none, some (.aload_n 0, 1, [0], 0, 0), some (.iload 5, 2, [5], 0, 0), none, some (.invokevirtual 183, 3, [0, 144, 2, 0], 0, 0), none, none, some (.ireturn, 1, [], 0, 0)]]
def f_S_slow (N : Nat) (a1 : Int32) (a2 : Int32) (a3 : Int32) (a4 : Int32) (h : MH) : Option (Int32 × MH) :=
  (f_S_isMark N a1 h).bind (fun x1 =>
  if x1.1 = 0 then
  ((f_S_refuse N 1 x1.2).bind (fun x2 =>
  some (x2.1, x2.2)))
  else
  ((f_S_isWithin N a2 2 10 x1.2).bind (fun x3 =>
  if x3.1 = 0 then
  ((f_S_refuse N 1 x3.2).bind (fun x4 =>
  some (x4.1, x4.2)))
  else
  (if a3 < 0 then
  ((f_S_refuse N 1 x3.2).bind (fun x5 =>
  some (x5.1, x5.2)))
  else
  ((f_S_isOneOf N a4 3 x3.2).bind (fun x6 =>
  if x6.1 = 0 then
  ((f_S_refuse N 1 x6.2).bind (fun x7 =>
  some (x7.1, x7.2)))
  else
  ((f_Ledger_gather N a1 x6.2).bind (fun x8 =>
  (f_Ledger_slowSlip N a2 a3 a4 x8).bind (fun x9 =>
  if 0 ≤ x9.1 then
  ((f_S_answer N x9.1 x9.2).bind (fun x10 =>
  some (x10.1, x10.2)))
  else
  ((f_S_refuse N 6 x9.2).bind (fun x11 =>
  some (x11.1, x11.2))))))))))))
def C_S_slow (N : Nat) : MC := (KDL, false, (fun _ => 0), jsB, (fun j => match Nat.beq j 27 with
    | true => w_Ledger_slowSlip (f_Ledger_slowSlip N)
    | false => match Nat.beq j 144 with
    | true => w_S_answer (f_S_answer N)
    | false => match Nat.beq j 146 with
    | true => w_S_refuse (f_S_refuse N)
    | false => match Nat.beq j 150 with
    | true => w_S_isWithin (f_S_isWithin N)
    | false => match Nat.beq j 151 with
    | true => w_S_isOneOf (f_S_isOneOf N)
    | false => match Nat.beq j 157 with
    | true => w_S_isMark (f_S_isMark N)
    | false => fun _ _ => none), (fun _ _ _ => none), (fun _ _ _ => none), (fun j => match Nat.beq j 22 with
    | true => w_Ledger_gather (f_Ledger_gather N)
    | false => fun _ _ => none))
def D_S_slow (N : Nat) (n pc : Nat) (lv : ML) (st : List MV) (h : MH) : Option (Int32 × MH) :=
  match Nat.beq pc 0 with
  | true => (match lk lv 0, lk lv 1, lk lv 2, lk lv 3, lk lv 4, st with
    | some (.inr (.inr (0, 11, 1))), some (.inl a1), some (.inl a2), some (.inl a3), some (.inl a4), [] => f_S_slow N a1 a2 a3 a4 h
    | _, _, _, _, _, _ => none)
  | false => none
set_option maxRecDepth 1000000 in
theorem E_S_slow_0 (N : Nat) (n : Nat) (a1 : Int32) (a2 : Int32) (a3 : Int32) (a4 : Int32) (h : MH) : seg (C_S_slow N) 6 0 rI T_S_slow [0] (fun q lv st h => match Nat.ble 1 q with
    | true => D_S_slow N n q lv st h
    | false => none) 400 true 0 [(0, .inr (.inr (0, 11, 1))), (1, .inl a1), (2, .inl a2), (3, .inl a3), (4, .inl a4)] [] h = f_S_slow N a1 a2 a3 a4 h := (rfl)
set_option maxRecDepth 1000000 in
theorem chk_S_slow : chkT 11 false prog_1_method_20_code T_S_slow = true := by decide +kernel
theorem mc_S_slow : mC 127 = prog_1_method_20_code := by rfl
theorem mx_S_slow : mL 127 = 6 ∧ mR 127 = some .int ∧ mK 127 = 1 ∧ (mN 127).cls = cN 11 := by decide +kernel
theorem hD_S_slow (N : Nat) {r : Int32 × MH} : ∀ n pc lv st h, D_S_slow N n pc lv st h = some r → ∃ lv', (∀ q ∈ lv', q ∈ lv) ∧ seg (C_S_slow N) 6 0 rI T_S_slow [0] (fun q lv st h => match Nat.ble (pc + 1) q with
    | true => D_S_slow N n q lv st h
    | false => none) 400 true pc lv' st h = some r := by
  intro n pc lv st h hf
  unfold D_S_slow at hf
  split at hf
  · rename_i hb
    have hb := Nat.eq_of_beq_eq_true hb
    subst hb
    split at hf
    · rename_i y0 y1 y2 y3 e0 e1 e2 e3 e4
      exact ⟨_, (sub_cons e0 (sub_cons e1 (sub_cons e2 (sub_cons e3 (sub_cons e4 sub_nil))))), (E_S_slow_0 N n _ _ _ _ h).trans hf⟩
    · cases hf
  · skip
    cases hf
theorem hM_S_slow (N : Nat) {r : Int32 × MH} : ∀ n pc lv st h, D_S_slow N n pc lv st h = some r → pc < 83 := by
  intro n pc lv st h hf
  unfold D_S_slow at hf
  split at hf
  · rename_i hb
    rw [Nat.eq_of_beq_eq_true hb]
    decide
  · skip
    cases hf
theorem s_S_slow {l : Launch} {E : EV} {N : Nat} {as : List MV} {h : MH} {r : Int32 × MH} (hf : w_S_slow (f_S_slow N) as h = some r) : SndM l E false 6 127 as h (some (.inl r.1)) r.2 := by
  unfold w_S_slow at hf
  split at hf
  · obtain ⟨m1, m2, m3, m4⟩ := mx_S_slow
    refine snd_of (C := C_S_slow N) (own := 11) (rz := 0) (lim := 115) rI_eq m2 m4 pl_127 (TB_in _ cw_127 rfl) ⟨(fun _ => ⟨_, _, _, _, _, _, rfl, rfl, by rw [m4]; rfl⟩), (fun z => by rw [m3] at z; cases z)⟩ (fun z => by cases z) KDL_take rfl rfl (fun z => by cases z) (fun z => by cases z) (fun _ => rfl) (by rw [m1]; exact Nat.le_of_ble_eq_true rfl)
      (fun j as h x z => by
      dsimp only [C_S_slow] at z
      cases hb : Nat.beq j 27 with
      | true =>
        have hb := Nat.eq_of_beq_eq_true hb
        subst hb
        exact ⟨5, by decide, (fun z => by cases z), s_Ledger_slowSlip z⟩
      | false =>
        rw [hb] at z
        dsimp only at z
        cases hb : Nat.beq j 144 with
        | true =>
          have hb := Nat.eq_of_beq_eq_true hb
          subst hb
          exact ⟨0, by decide, (fun z => by cases z), s_S_answer z⟩
        | false =>
          rw [hb] at z
          dsimp only at z
          cases hb : Nat.beq j 146 with
          | true =>
            have hb := Nat.eq_of_beq_eq_true hb
            subst hb
            exact ⟨0, by decide, (fun z => by cases z), s_S_refuse z⟩
          | false =>
            rw [hb] at z
            dsimp only at z
            cases hb : Nat.beq j 150 with
            | true =>
              have hb := Nat.eq_of_beq_eq_true hb
              subst hb
              exact ⟨0, by decide, (fun z => by cases z), s_S_isWithin z⟩
            | false =>
              rw [hb] at z
              dsimp only at z
              cases hb : Nat.beq j 151 with
              | true =>
                have hb := Nat.eq_of_beq_eq_true hb
                subst hb
                exact ⟨0, by decide, (fun z => by cases z), s_S_isOneOf z⟩
              | false =>
                rw [hb] at z
                dsimp only at z
                cases hb : Nat.beq j 157 with
                | true =>
                  have hb := Nat.eq_of_beq_eq_true hb
                  subst hb
                  exact ⟨1, by decide, (fun z => by cases z), s_S_isMark z⟩
                | false =>
                  rw [hb] at z
                  dsimp only at z
                  cases z)
      (fun _ _ _ _ z => by cases z)
      (fun _ _ _ _ z => by cases z)
      (fun j as h x z => by
      dsimp only [C_S_slow] at z
      cases hb : Nat.beq j 22 with
      | true =>
        have hb := Nat.eq_of_beq_eq_true hb
        subst hb
        exact ⟨1, by decide, (fun z => by cases z), s_Ledger_gather z⟩
      | false =>
        rw [hb] at z
        dsimp only at z
        cases z)
      (fun p e R s m args below meth c Q n0 F hret => ?_)
    rw [m1] at F hret ⊢
    rw [mc_S_slow] at F hret
    exact cuts_s (K := 400) (M := 83) (D := D_S_slow N) (B := fun _ _ _ _ _ => none) F hret (chkT_ok chk_S_slow) (hM_S_slow N) (fun _ _ _ _ _ z => by cases z) (hD_S_slow N) N 0 _ _ _ hf
  · cases hf
def T_S_smooth : List (List (Option RW)) := [
  [some (.iload_n 1, 1, [1], 0, 0), some (.iconst 0, 1, [], 0, 0), some (.bipush 9, 2, [], 9, 0), none, some (.invokestatic 207, 3, [2, 150, 3, 0], 0, 0), none, none, some (.ifCond .ne 9, 3, [16], 0, 0), none, none, some (.aload_n 0, 1, [0], 0, 0), some (.iconst 1, 1, [], 1, 0), some (.invokevirtual 109, 3, [0, 147, 2, 0], 0, 0), none, none, some (.ireturn, 1, [], 0, 0), some (.aload_n 0, 1, [0], 0, 0), some (.iload_n 1, 1, [1], 0, 0), some (.putfield 95, 3, [11, 15, 0], 0, 0), none, none, some (.aload_n 0, 1, [0], 0, 0), some (.invokevirtual 116, 3, [0, 145, 1, 0], 0, 0), none, none, some (.ireturn, 1, [], 0, 0)]]
def f_S_smooth (N : Nat) (a1 : Int32) (h : MH) : Option (Int32 × MH) :=
  (f_S_isWithin N a1 0 9 h).bind (fun x1 =>
  if x1.1 = 0 then
  ((f_S_deny N 1 x1.2).bind (fun x2 =>
  match narOK 1 x2.1 with
  | true => some (x2.1, x2.2)
  | false => none))
  else
  (let h3 : MH := sI x1.2 1 15 a1
  (f_S_allow N h3).bind (fun x4 =>
  match narOK 1 x4.1 with
  | true => some (x4.1, x4.2)
  | false => none)))
def C_S_smooth (N : Nat) : MC := (KDL, false, (fun _ => 0), jsB, (fun j => match Nat.beq j 145 with
    | true => w_S_allow (f_S_allow N)
    | false => match Nat.beq j 147 with
    | true => w_S_deny (f_S_deny N)
    | false => match Nat.beq j 150 with
    | true => w_S_isWithin (f_S_isWithin N)
    | false => fun _ _ => none), (fun _ _ _ => none), (fun _ _ _ => none), (fun _ _ _ => none))
def D_S_smooth (N : Nat) (n pc : Nat) (lv : ML) (st : List MV) (h : MH) : Option (Int32 × MH) :=
  match Nat.beq pc 0 with
  | true => (match lk lv 0, lk lv 1, st with
    | some (.inr (.inr (0, 11, 1))), some (.inl a1), [] => f_S_smooth N a1 h
    | _, _, _ => none)
  | false => none
set_option maxRecDepth 1000000 in
theorem E_S_smooth_0 (N : Nat) (n : Nat) (a1 : Int32) (h : MH) : seg (C_S_smooth N) 2 1 rI T_S_smooth [0] (fun q lv st h => match Nat.ble 1 q with
    | true => D_S_smooth N n q lv st h
    | false => none) 400 true 0 [(0, .inr (.inr (0, 11, 1))), (1, .inl a1)] [] h = f_S_smooth N a1 h := (rfl)
set_option maxRecDepth 1000000 in
theorem chk_S_smooth : chkT 11 false prog_1_method_21_code T_S_smooth = true := by decide +kernel
theorem mc_S_smooth : mC 128 = prog_1_method_21_code := by rfl
theorem mx_S_smooth : mL 128 = 2 ∧ mR 128 = some .boolean ∧ mK 128 = 1 ∧ (mN 128).cls = cN 11 := by decide +kernel
theorem hD_S_smooth (N : Nat) {r : Int32 × MH} : ∀ n pc lv st h, D_S_smooth N n pc lv st h = some r → ∃ lv', (∀ q ∈ lv', q ∈ lv) ∧ seg (C_S_smooth N) 2 1 rI T_S_smooth [0] (fun q lv st h => match Nat.ble (pc + 1) q with
    | true => D_S_smooth N n q lv st h
    | false => none) 400 true pc lv' st h = some r := by
  intro n pc lv st h hf
  unfold D_S_smooth at hf
  split at hf
  · rename_i hb
    have hb := Nat.eq_of_beq_eq_true hb
    subst hb
    split at hf
    · rename_i y0 e0 e1
      exact ⟨_, (sub_cons e0 (sub_cons e1 sub_nil)), (E_S_smooth_0 N n _ h).trans hf⟩
    · cases hf
  · skip
    cases hf
theorem hM_S_smooth (N : Nat) {r : Int32 × MH} : ∀ n pc lv st h, D_S_smooth N n pc lv st h = some r → pc < 26 := by
  intro n pc lv st h hf
  unfold D_S_smooth at hf
  split at hf
  · rename_i hb
    rw [Nat.eq_of_beq_eq_true hb]
    decide
  · skip
    cases hf
theorem s_S_smooth {l : Launch} {E : EV} {N : Nat} {as : List MV} {h : MH} {r : Int32 × MH} (hf : w_S_smooth (f_S_smooth N) as h = some r) : SndM l E false 1 128 as h (some (.inl r.1)) r.2 := by
  unfold w_S_smooth at hf
  split at hf
  · obtain ⟨m1, m2, m3, m4⟩ := mx_S_smooth
    refine snd_of (C := C_S_smooth N) (own := 11) (rz := 1) (lim := 115) rI_eq m2 m4 pl_128 (TB_in _ cw_128 rfl) ⟨(fun _ => ⟨_, _, _, _, _, _, rfl, rfl, by rw [m4]; rfl⟩), (fun z => by rw [m3] at z; cases z)⟩ (fun z => by cases z) KDL_take rfl rfl (fun z => by cases z) (fun z => by cases z) (fun _ => rfl) (by rw [m1]; exact Nat.le_of_ble_eq_true rfl)
      (fun j as h x z => by
      dsimp only [C_S_smooth] at z
      cases hb : Nat.beq j 145 with
      | true =>
        have hb := Nat.eq_of_beq_eq_true hb
        subst hb
        exact ⟨0, by decide, (fun z => by cases z), s_S_allow z⟩
      | false =>
        rw [hb] at z
        dsimp only at z
        cases hb : Nat.beq j 147 with
        | true =>
          have hb := Nat.eq_of_beq_eq_true hb
          subst hb
          exact ⟨0, by decide, (fun z => by cases z), s_S_deny z⟩
        | false =>
          rw [hb] at z
          dsimp only at z
          cases hb : Nat.beq j 150 with
          | true =>
            have hb := Nat.eq_of_beq_eq_true hb
            subst hb
            exact ⟨0, by decide, (fun z => by cases z), s_S_isWithin z⟩
          | false =>
            rw [hb] at z
            dsimp only at z
            cases z)
      (fun _ _ _ _ z => by cases z)
      (fun _ _ _ _ z => by cases z)
      (fun _ _ _ _ z => by cases z)
      (fun p e R s m args below meth c Q n0 F hret => ?_)
    rw [m1] at F hret ⊢
    rw [mc_S_smooth] at F hret
    exact cuts_s (K := 400) (M := 26) (D := D_S_smooth N) (B := fun _ _ _ _ _ => none) F hret (chkT_ok chk_S_smooth) (hM_S_smooth N) (fun _ _ _ _ _ z => by cases z) (hD_S_smooth N) N 0 _ _ _ hf
  · cases hf
def T_S_areYears : List (List (Option RW)) := [
  [some (.iload_n 0, 1, [0], 0, 0), some (.invokestatic 204, 3, [2, 153, 1, 0], 0, 0), none, none, some (.ifCond .eq 19, 3, [23], 0, 0), none, none, some (.iload_n 1, 1, [1], 0, 0), some (.invokestatic 204, 3, [2, 153, 1, 0], 0, 0), none, none, some (.ifCond .eq 12, 3, [23], 0, 0), none, none, some (.iload_n 0, 1, [0], 0, 0), some (.iload_n 1, 1, [1], 0, 0), some (.if_icmp .ge 7, 3, [23], 0, 0), none, none, some (.iconst 1, 1, [], 1, 0), some (.goto 4, 3, [24], 0, 0), none, none, some (.iconst 0, 1, [], 0, 0), some (.ireturn, 1, [], 0, 0)]]
def f_S_areYears (N : Nat) (a0 : Int32) (a1 : Int32) (h : MH) : Option (Int32 × MH) :=
  (f_S_isYear N a0 h).bind (fun x1 =>
  if x1.1 = 0 then
  (some (0, x1.2))
  else
  ((f_S_isYear N a1 x1.2).bind (fun x2 =>
  if x2.1 = 0 then
  (some (0, x2.2))
  else
  (if a1 ≤ a0 then
  (some (0, x2.2))
  else
  (some (1, x2.2))))))
def C_S_areYears (N : Nat) : MC := (KDL, false, (fun _ => 0), jsB, (fun j => match Nat.beq j 153 with
    | true => w_S_isYear (f_S_isYear N)
    | false => fun _ _ => none), (fun _ _ _ => none), (fun _ _ _ => none), (fun _ _ _ => none))
def D_S_areYears (N : Nat) (n pc : Nat) (lv : ML) (st : List MV) (h : MH) : Option (Int32 × MH) :=
  match Nat.beq pc 0 with
  | true => (match lk lv 0, lk lv 1, st with
    | some (.inl a0), some (.inl a1), [] => f_S_areYears N a0 a1 h
    | _, _, _ => none)
  | false => none
set_option maxRecDepth 1000000 in
theorem E_S_areYears_0 (N : Nat) (n : Nat) (a0 : Int32) (a1 : Int32) (h : MH) : seg (C_S_areYears N) 2 1 rI T_S_areYears [0] (fun q lv st h => match Nat.ble 1 q with
    | true => D_S_areYears N n q lv st h
    | false => none) 400 true 0 [(0, .inl a0), (1, .inl a1)] [] h = f_S_areYears N a0 a1 h := (rfl)
set_option maxRecDepth 1000000 in
theorem chk_S_areYears : chkT 11 false prog_1_method_47_code T_S_areYears = true := by decide +kernel
theorem mc_S_areYears : mC 154 = prog_1_method_47_code := by rfl
theorem mx_S_areYears : mL 154 = 2 ∧ mR 154 = some .boolean ∧ mK 154 = 0 ∧ (mN 154).cls = cN 11 := by decide +kernel
theorem hD_S_areYears (N : Nat) {r : Int32 × MH} : ∀ n pc lv st h, D_S_areYears N n pc lv st h = some r → ∃ lv', (∀ q ∈ lv', q ∈ lv) ∧ seg (C_S_areYears N) 2 1 rI T_S_areYears [0] (fun q lv st h => match Nat.ble (pc + 1) q with
    | true => D_S_areYears N n q lv st h
    | false => none) 400 true pc lv' st h = some r := by
  intro n pc lv st h hf
  unfold D_S_areYears at hf
  split at hf
  · rename_i hb
    have hb := Nat.eq_of_beq_eq_true hb
    subst hb
    split at hf
    · rename_i y0 y1 e0 e1
      exact ⟨_, (sub_cons e0 (sub_cons e1 sub_nil)), (E_S_areYears_0 N n _ _ h).trans hf⟩
    · cases hf
  · skip
    cases hf
theorem hM_S_areYears (N : Nat) {r : Int32 × MH} : ∀ n pc lv st h, D_S_areYears N n pc lv st h = some r → pc < 25 := by
  intro n pc lv st h hf
  unfold D_S_areYears at hf
  split at hf
  · rename_i hb
    rw [Nat.eq_of_beq_eq_true hb]
    decide
  · skip
    cases hf
theorem s_S_areYears {l : Launch} {E : EV} {N : Nat} {as : List MV} {h : MH} {r : Int32 × MH} (hf : w_S_areYears (f_S_areYears N) as h = some r) : SndM l E false 2 154 as h (some (.inl r.1)) r.2 := by
  unfold w_S_areYears at hf
  split at hf
  · obtain ⟨m1, m2, m3, m4⟩ := mx_S_areYears
    refine snd_of (C := C_S_areYears N) (own := 11) (rz := 1) (lim := 115) rI_eq m2 m4 pl_154 (TB_in _ cw_154 rfl) ⟨(fun z => by rw [m3] at z; cases z), (fun z => by rw [m3] at z; cases z)⟩ (fun z => by cases z) KDL_take rfl rfl (fun z => by cases z) (fun z => by cases z) (fun _ => rfl) (by rw [m1]; exact Nat.le_of_ble_eq_true rfl)
      (fun j as h x z => by
      dsimp only [C_S_areYears] at z
      cases hb : Nat.beq j 153 with
      | true =>
        have hb := Nat.eq_of_beq_eq_true hb
        subst hb
        exact ⟨1, by decide, (fun z => by cases z), s_S_isYear z⟩
      | false =>
        rw [hb] at z
        dsimp only at z
        cases z)
      (fun _ _ _ _ z => by cases z)
      (fun _ _ _ _ z => by cases z)
      (fun _ _ _ _ z => by cases z)
      (fun p e R s m args below meth c Q n0 F hret => ?_)
    rw [m1] at F hret ⊢
    rw [mc_S_areYears] at F hret
    exact cuts_s (K := 400) (M := 25) (D := D_S_areYears N) (B := fun _ _ _ _ _ => none) F hret (chkT_ok chk_S_areYears) (hM_S_areYears N) (fun _ _ _ _ _ z => by cases z) (hD_S_areYears N) N 0 _ _ _ hf
  · cases hf
def T_S_walkAll : List (List (Option RW)) := [
  [some (.aload_n 0, 1, [0], 0, 0), some (.getfield 46, 3, [11, 5, 2, 0, 0, 32], 0, 0), none, none, some (.aload_n 0, 1, [0], 0, 0), some (.getfield 81, 3, [11, 11, 3, 0, 2], 0, 0), none, none, some (.aload_n 0, 1, [0], 0, 0), some (.getfield 25, 3, [11, 2, 2, 0, 3, 15], 0, 0), none, none, some (.iload_n 1, 1, [1], 0, 0), some (.iload_n 2, 1, [2], 0, 0), some (.invokevirtual 299, 3, [1, 1, 5, 3], 0, 0), none, none, some (.aload_n 0, 1, [0], 0, 0), some (.getfield 53, 3, [11, 6, 2, 0, 10, 41], 0, 0), none, none, some (.aload_n 0, 1, [0], 0, 0), some (.getfield 46, 3, [11, 5, 2, 0, 0, 32], 0, 0), none, none, some (.aload_n 0, 1, [0], 0, 0), some (.getfield 95, 3, [11, 15, 0], 0, 0), none, none, some (.iload_n 3, 1, [3], 0, 0), some (.iload 4, 2, [4], 0, 0), none],
  [some (.invokevirtual 389, 3, [1, 92, 5, 3], 0, 0), none, none, some (.return_, 1, [], 0, 0)]]
def f_S_walkAll (N : Nat) (a1 : Int32) (a2 : Int32) (a3 : Int32) (a4 : Int32) (h : MH) : Option (MH) :=
  (f_Asked_prepare N (gR h 1 11) a1 a2 h).bind (fun x1 =>
  (f_Walk_all N (gI x1 1 15) a3 a4 x1).bind (fun x2 =>
  some x2))
def C_S_walkAll (N : Nat) : MC := (KDL, false, (fun _ => 0), jsB, (fun _ _ _ => none), (fun _ _ _ => none), (fun _ _ _ => none), (fun j => match Nat.beq j 1 with
    | true => w_Asked_prepare (f_Asked_prepare N)
    | false => match Nat.beq j 92 with
    | true => w_Walk_all (f_Walk_all N)
    | false => fun _ _ => none))
def D_S_walkAll (N : Nat) (n pc : Nat) (lv : ML) (st : List MV) (h : MH) : Option (MH) :=
  match Nat.beq pc 0 with
  | true => (match lk lv 0, lk lv 1, lk lv 2, lk lv 3, lk lv 4, st with
    | some (.inr (.inr (0, 11, 1))), some (.inl a1), some (.inl a2), some (.inl a3), some (.inl a4), [] => f_S_walkAll N a1 a2 a3 a4 h
    | _, _, _, _, _, _ => none)
  | false => none
set_option maxRecDepth 1000000 in
theorem E_S_walkAll_0 (N : Nat) (n : Nat) (a1 : Int32) (a2 : Int32) (a3 : Int32) (a4 : Int32) (h : MH) : seg (C_S_walkAll N) 5 0 rV T_S_walkAll [0] (fun q lv st h => match Nat.ble 1 q with
    | true => D_S_walkAll N n q lv st h
    | false => none) 400 true 0 [(0, .inr (.inr (0, 11, 1))), (1, .inl a1), (2, .inl a2), (3, .inl a3), (4, .inl a4)] [] h = f_S_walkAll N a1 a2 a3 a4 h := (rfl)
set_option maxRecDepth 1000000 in
theorem chk_S_walkAll : chkT 11 false prog_1_method_54_code T_S_walkAll = true := by decide +kernel
theorem mc_S_walkAll : mC 161 = prog_1_method_54_code := by rfl
theorem mx_S_walkAll : mL 161 = 5 ∧ mR 161 = none ∧ mK 161 = 1 ∧ (mN 161).cls = cN 11 := by decide +kernel
theorem hD_S_walkAll (N : Nat) {r : MH} : ∀ n pc lv st h, D_S_walkAll N n pc lv st h = some r → ∃ lv', (∀ q ∈ lv', q ∈ lv) ∧ seg (C_S_walkAll N) 5 0 rV T_S_walkAll [0] (fun q lv st h => match Nat.ble (pc + 1) q with
    | true => D_S_walkAll N n q lv st h
    | false => none) 400 true pc lv' st h = some r := by
  intro n pc lv st h hf
  unfold D_S_walkAll at hf
  split at hf
  · rename_i hb
    have hb := Nat.eq_of_beq_eq_true hb
    subst hb
    split at hf
    · rename_i y0 y1 y2 y3 e0 e1 e2 e3 e4
      exact ⟨_, (sub_cons e0 (sub_cons e1 (sub_cons e2 (sub_cons e3 (sub_cons e4 sub_nil))))), (E_S_walkAll_0 N n _ _ _ _ h).trans hf⟩
    · cases hf
  · skip
    cases hf
theorem hM_S_walkAll (N : Nat) {r : MH} : ∀ n pc lv st h, D_S_walkAll N n pc lv st h = some r → pc < 36 := by
  intro n pc lv st h hf
  unfold D_S_walkAll at hf
  split at hf
  · rename_i hb
    rw [Nat.eq_of_beq_eq_true hb]
    decide
  · skip
    cases hf
theorem s_S_walkAll {l : Launch} {E : EV} {N : Nat} {as : List MV} {h : MH} {r : MH} (hf : w_S_walkAll (f_S_walkAll N) as h = some r) : SndM l E false 13 161 as h none r := by
  unfold w_S_walkAll at hf
  split at hf
  · obtain ⟨m1, m2, m3, m4⟩ := mx_S_walkAll
    refine snd_of (C := C_S_walkAll N) (own := 11) (rz := 0) (lim := 115) rV_eq m2 m4 pl_161 (TB_in _ cw_161 rfl) ⟨(fun _ => ⟨_, _, _, _, _, _, rfl, rfl, by rw [m4]; rfl⟩), (fun z => by rw [m3] at z; cases z)⟩ (fun z => by cases z) KDL_take rfl rfl (fun z => by cases z) (fun z => by cases z) (fun _ => rfl) (by rw [m1]; exact Nat.le_of_ble_eq_true rfl)
      (fun _ _ _ _ z => by cases z)
      (fun _ _ _ _ z => by cases z)
      (fun _ _ _ _ z => by cases z)
      (fun j as h x z => by
      dsimp only [C_S_walkAll] at z
      cases hb : Nat.beq j 1 with
      | true =>
        have hb := Nat.eq_of_beq_eq_true hb
        subst hb
        exact ⟨2, by decide, (fun z => by cases z), s_Asked_prepare z⟩
      | false =>
        rw [hb] at z
        dsimp only at z
        cases hb : Nat.beq j 92 with
        | true =>
          have hb := Nat.eq_of_beq_eq_true hb
          subst hb
          exact ⟨12, by decide, (fun z => by cases z), s_Walk_all z⟩
        | false =>
          rw [hb] at z
          dsimp only at z
          cases z)
      (fun p e R s m args below meth c Q n0 F hret => ?_)
    rw [m1] at F hret ⊢
    rw [mc_S_walkAll] at F hret
    exact cuts_s (K := 400) (M := 36) (D := D_S_walkAll N) (B := fun _ _ _ _ _ => none) F hret (chkT_ok chk_S_walkAll) (hM_S_walkAll N) (fun _ _ _ _ _ z => by cases z) (hD_S_walkAll N) N 0 _ _ _ hf
  · cases hf
def T_S_slips : List (List (Option RW)) := [
  [some (.iload_n 1, 1, [1], 0, 0), some (.iload_n 2, 1, [2], 0, 0), some (.invokestatic 280, 3, [2, 154, 2, 0], 0, 0), none, none, some (.ifCond .ne 9, 3, [14], 0, 0), none, none, some (.aload_n 0, 1, [0], 0, 0), some (.iconst 1, 1, [], 1, 0), some (.invokevirtual 128, 3, [0, 146, 2, 0], 0, 0), none, none, some (.ireturn, 1, [], 0, 0), some (.aload_n 0, 1, [0], 0, 0), some (.getfield 81, 3, [11, 11, 3, 0, 2], 0, 0), none, none, some (.getfield 189, 3, [2, 0, 0], 0, 0), none, none, some (.ifCond .ne 10, 3, [31], 0, 0), none, none, some (.aload_n 0, 1, [0], 0, 0), some (.bipush 6, 2, [], 6, 0), none, some (.invokevirtual 128, 3, [0, 146, 2, 0], 0, 0), none, none, some (.ireturn, 1, [], 0, 0), some (.aload_n 0, 1, [0], 0, 0)],
  [some (.iload_n 1, 1, [1], 0, 0), some (.iload_n 2, 1, [2], 0, 0), some (.iconst 0, 1, [], 0, 0), some (.iconst 0, 1, [], 0, 0), some (.invokevirtual 283, 3, [0, 161, 5, 3], 0, 0), none, none, some (.aload_n 0, 1, [0], 0, 0), some (.aload_n 0, 1, [0], 0, 0), some (.getfield 53, 3, [11, 6, 2, 0, 10, 41], 0, 0), none, none, some (.getfield 287, 3, [10, 4, 0], 0, 0), none, none, some (.invokevirtual 183, 3, [0, 144, 2, 0], 0, 0), none, none, some (.ireturn, 1, [], 0, 0)]]
def f_S_slips (N : Nat) (a1 : Int32) (a2 : Int32) (h : MH) : Option (Int32 × MH) :=
  (f_S_areYears N a1 a2 h).bind (fun x1 =>
  if x1.1 = 0 then
  ((f_S_refuse N 1 x1.2).bind (fun x2 =>
  some (x2.1, x2.2)))
  else
  (if (gI x1.2 (gR x1.2 1 11) 0) = 0 then
  ((f_S_refuse N 6 x1.2).bind (fun x3 =>
  some (x3.1, x3.2)))
  else
  ((f_S_walkAll N a1 a2 0 0 x1.2).bind (fun x4 =>
  (f_S_answer N (gI x4 42 4) x4).bind (fun x5 =>
  some (x5.1, x5.2))))))
def C_S_slips (N : Nat) : MC := (KDL, false, (fun _ => 0), jsB, (fun j => match Nat.beq j 144 with
    | true => w_S_answer (f_S_answer N)
    | false => match Nat.beq j 146 with
    | true => w_S_refuse (f_S_refuse N)
    | false => match Nat.beq j 154 with
    | true => w_S_areYears (f_S_areYears N)
    | false => fun _ _ => none), (fun _ _ _ => none), (fun _ _ _ => none), (fun j => match Nat.beq j 161 with
    | true => w_S_walkAll (f_S_walkAll N)
    | false => fun _ _ => none))
def D_S_slips (N : Nat) (n pc : Nat) (lv : ML) (st : List MV) (h : MH) : Option (Int32 × MH) :=
  match Nat.beq pc 0 with
  | true => (match lk lv 0, lk lv 1, lk lv 2, st with
    | some (.inr (.inr (0, 11, 1))), some (.inl a1), some (.inl a2), [] => f_S_slips N a1 a2 h
    | _, _, _, _ => none)
  | false => none
set_option maxRecDepth 1000000 in
theorem E_S_slips_0 (N : Nat) (n : Nat) (a1 : Int32) (a2 : Int32) (h : MH) : seg (C_S_slips N) 3 0 rI T_S_slips [0] (fun q lv st h => match Nat.ble 1 q with
    | true => D_S_slips N n q lv st h
    | false => none) 400 true 0 [(0, .inr (.inr (0, 11, 1))), (1, .inl a1), (2, .inl a2)] [] h = f_S_slips N a1 a2 h := (rfl)
set_option maxRecDepth 1000000 in
theorem chk_S_slips : chkT 11 false prog_1_method_22_code T_S_slips = true := by decide +kernel
theorem mc_S_slips : mC 129 = prog_1_method_22_code := by rfl
theorem mx_S_slips : mL 129 = 3 ∧ mR 129 = some .int ∧ mK 129 = 1 ∧ (mN 129).cls = cN 11 := by decide +kernel
theorem hD_S_slips (N : Nat) {r : Int32 × MH} : ∀ n pc lv st h, D_S_slips N n pc lv st h = some r → ∃ lv', (∀ q ∈ lv', q ∈ lv) ∧ seg (C_S_slips N) 3 0 rI T_S_slips [0] (fun q lv st h => match Nat.ble (pc + 1) q with
    | true => D_S_slips N n q lv st h
    | false => none) 400 true pc lv' st h = some r := by
  intro n pc lv st h hf
  unfold D_S_slips at hf
  split at hf
  · rename_i hb
    have hb := Nat.eq_of_beq_eq_true hb
    subst hb
    split at hf
    · rename_i y0 y1 e0 e1 e2
      exact ⟨_, (sub_cons e0 (sub_cons e1 (sub_cons e2 sub_nil))), (E_S_slips_0 N n _ _ h).trans hf⟩
    · cases hf
  · skip
    cases hf
theorem hM_S_slips (N : Nat) {r : Int32 × MH} : ∀ n pc lv st h, D_S_slips N n pc lv st h = some r → pc < 51 := by
  intro n pc lv st h hf
  unfold D_S_slips at hf
  split at hf
  · rename_i hb
    rw [Nat.eq_of_beq_eq_true hb]
    decide
  · skip
    cases hf
theorem s_S_slips {l : Launch} {E : EV} {N : Nat} {as : List MV} {h : MH} {r : Int32 × MH} (hf : w_S_slips (f_S_slips N) as h = some r) : SndM l E false 14 129 as h (some (.inl r.1)) r.2 := by
  unfold w_S_slips at hf
  split at hf
  · obtain ⟨m1, m2, m3, m4⟩ := mx_S_slips
    refine snd_of (C := C_S_slips N) (own := 11) (rz := 0) (lim := 115) rI_eq m2 m4 pl_129 (TB_in _ cw_129 rfl) ⟨(fun _ => ⟨_, _, _, _, _, _, rfl, rfl, by rw [m4]; rfl⟩), (fun z => by rw [m3] at z; cases z)⟩ (fun z => by cases z) KDL_take rfl rfl (fun z => by cases z) (fun z => by cases z) (fun _ => rfl) (by rw [m1]; exact Nat.le_of_ble_eq_true rfl)
      (fun j as h x z => by
      dsimp only [C_S_slips] at z
      cases hb : Nat.beq j 144 with
      | true =>
        have hb := Nat.eq_of_beq_eq_true hb
        subst hb
        exact ⟨0, by decide, (fun z => by cases z), s_S_answer z⟩
      | false =>
        rw [hb] at z
        dsimp only at z
        cases hb : Nat.beq j 146 with
        | true =>
          have hb := Nat.eq_of_beq_eq_true hb
          subst hb
          exact ⟨0, by decide, (fun z => by cases z), s_S_refuse z⟩
        | false =>
          rw [hb] at z
          dsimp only at z
          cases hb : Nat.beq j 154 with
          | true =>
            have hb := Nat.eq_of_beq_eq_true hb
            subst hb
            exact ⟨2, by decide, (fun z => by cases z), s_S_areYears z⟩
          | false =>
            rw [hb] at z
            dsimp only at z
            cases z)
      (fun _ _ _ _ z => by cases z)
      (fun _ _ _ _ z => by cases z)
      (fun j as h x z => by
      dsimp only [C_S_slips] at z
      cases hb : Nat.beq j 161 with
      | true =>
        have hb := Nat.eq_of_beq_eq_true hb
        subst hb
        exact ⟨13, by decide, (fun z => by cases z), s_S_walkAll z⟩
      | false =>
        rw [hb] at z
        dsimp only at z
        cases z)
      (fun p e R s m args below meth c Q n0 F hret => ?_)
    rw [m1] at F hret ⊢
    rw [mc_S_slips] at F hret
    exact cuts_s (K := 400) (M := 51) (D := D_S_slips N) (B := fun _ _ _ _ _ => none) F hret (chkT_ok chk_S_slips) (hM_S_slips N) (fun _ _ _ _ _ z => by cases z) (hD_S_slips N) N 0 _ _ _ hf
  · cases hf
def T_S_isSetOfCells : List (List (Option RW)) := [
  [some (.iload_n 1, 1, [1], 0, 0), some (.iconst 1, 1, [], 1, 0), some (.iconst 1, 1, [], 1, 0), some (.aload_n 0, 1, [0], 0, 0), some (.getfield 81, 3, [11, 11, 3, 0, 2], 0, 0), none, none, some (.getfield 189, 3, [2, 0, 0], 0, 0), none, none, some (.ishl, 1, [], 0, 0), some (.iconst 1, 1, [], 1, 0), some (.isub, 1, [], 0, 0), some (.invokestatic 207, 3, [2, 150, 3, 0], 0, 0), none, none, some (.ireturn, 1, [], 0, 0)]]
def f_S_isSetOfCells (N : Nat) (a1 : Int32) (h : MH) : Option (Int32 × MH) :=
  (f_S_isWithin N a1 1 (((1 : Int32) <<< ((gI h (gR h 1 11) 0) &&& 31)) - 1) h).bind (fun x1 =>
  match narOK 1 x1.1 with
  | true => some (x1.1, x1.2)
  | false => none)
def C_S_isSetOfCells (N : Nat) : MC := (KDL, false, (fun _ => 0), jsB, (fun j => match Nat.beq j 150 with
    | true => w_S_isWithin (f_S_isWithin N)
    | false => fun _ _ => none), (fun _ _ _ => none), (fun _ _ _ => none), (fun _ _ _ => none))
def D_S_isSetOfCells (N : Nat) (n pc : Nat) (lv : ML) (st : List MV) (h : MH) : Option (Int32 × MH) :=
  match Nat.beq pc 0 with
  | true => (match lk lv 0, lk lv 1, st with
    | some (.inr (.inr (0, 11, 1))), some (.inl a1), [] => f_S_isSetOfCells N a1 h
    | _, _, _ => none)
  | false => none
set_option maxRecDepth 1000000 in
theorem E_S_isSetOfCells_0 (N : Nat) (n : Nat) (a1 : Int32) (h : MH) : seg (C_S_isSetOfCells N) 2 1 rI T_S_isSetOfCells [0] (fun q lv st h => match Nat.ble 1 q with
    | true => D_S_isSetOfCells N n q lv st h
    | false => none) 400 true 0 [(0, .inr (.inr (0, 11, 1))), (1, .inl a1)] [] h = f_S_isSetOfCells N a1 h := (rfl)
set_option maxRecDepth 1000000 in
theorem chk_S_isSetOfCells : chkT 11 false prog_1_method_51_code T_S_isSetOfCells = true := by decide +kernel
theorem mc_S_isSetOfCells : mC 158 = prog_1_method_51_code := by rfl
theorem mx_S_isSetOfCells : mL 158 = 2 ∧ mR 158 = some .boolean ∧ mK 158 = 1 ∧ (mN 158).cls = cN 11 := by decide +kernel
theorem hD_S_isSetOfCells (N : Nat) {r : Int32 × MH} : ∀ n pc lv st h, D_S_isSetOfCells N n pc lv st h = some r → ∃ lv', (∀ q ∈ lv', q ∈ lv) ∧ seg (C_S_isSetOfCells N) 2 1 rI T_S_isSetOfCells [0] (fun q lv st h => match Nat.ble (pc + 1) q with
    | true => D_S_isSetOfCells N n q lv st h
    | false => none) 400 true pc lv' st h = some r := by
  intro n pc lv st h hf
  unfold D_S_isSetOfCells at hf
  split at hf
  · rename_i hb
    have hb := Nat.eq_of_beq_eq_true hb
    subst hb
    split at hf
    · rename_i y0 e0 e1
      exact ⟨_, (sub_cons e0 (sub_cons e1 sub_nil)), (E_S_isSetOfCells_0 N n _ h).trans hf⟩
    · cases hf
  · skip
    cases hf
theorem hM_S_isSetOfCells (N : Nat) {r : Int32 × MH} : ∀ n pc lv st h, D_S_isSetOfCells N n pc lv st h = some r → pc < 17 := by
  intro n pc lv st h hf
  unfold D_S_isSetOfCells at hf
  split at hf
  · rename_i hb
    rw [Nat.eq_of_beq_eq_true hb]
    decide
  · skip
    cases hf
theorem s_S_isSetOfCells {l : Launch} {E : EV} {N : Nat} {as : List MV} {h : MH} {r : Int32 × MH} (hf : w_S_isSetOfCells (f_S_isSetOfCells N) as h = some r) : SndM l E false 1 158 as h (some (.inl r.1)) r.2 := by
  unfold w_S_isSetOfCells at hf
  split at hf
  · obtain ⟨m1, m2, m3, m4⟩ := mx_S_isSetOfCells
    refine snd_of (C := C_S_isSetOfCells N) (own := 11) (rz := 1) (lim := 115) rI_eq m2 m4 pl_158 (TB_in _ cw_158 rfl) ⟨(fun _ => ⟨_, _, _, _, _, _, rfl, rfl, by rw [m4]; rfl⟩), (fun z => by rw [m3] at z; cases z)⟩ (fun z => by cases z) KDL_take rfl rfl (fun z => by cases z) (fun z => by cases z) (fun _ => rfl) (by rw [m1]; exact Nat.le_of_ble_eq_true rfl)
      (fun j as h x z => by
      dsimp only [C_S_isSetOfCells] at z
      cases hb : Nat.beq j 150 with
      | true =>
        have hb := Nat.eq_of_beq_eq_true hb
        subst hb
        exact ⟨0, by decide, (fun z => by cases z), s_S_isWithin z⟩
      | false =>
        rw [hb] at z
        dsimp only at z
        cases z)
      (fun _ _ _ _ z => by cases z)
      (fun _ _ _ _ z => by cases z)
      (fun _ _ _ _ z => by cases z)
      (fun p e R s m args below meth c Q n0 F hret => ?_)
    rw [m1] at F hret ⊢
    rw [mc_S_isSetOfCells] at F hret
    exact cuts_s (K := 400) (M := 17) (D := D_S_isSetOfCells N) (B := fun _ _ _ _ _ => none) F hret (chkT_ok chk_S_isSetOfCells) (hM_S_isSetOfCells N) (fun _ _ _ _ _ z => by cases z) (hD_S_isSetOfCells N) N 0 _ _ _ hf
  · cases hf
def T_S_ends : List (List (Option RW)) := [
  [some (.iload_n 1, 1, [1], 0, 0), some (.iload_n 2, 1, [2], 0, 0), some (.invokestatic 280, 3, [2, 154, 2, 0], 0, 0), none, none, some (.ifCond .eq 20, 3, [25], 0, 0), none, none, some (.aload_n 0, 1, [0], 0, 0), some (.iload_n 3, 1, [3], 0, 0), some (.invokevirtual 290, 3, [0, 158, 2, 0], 0, 0), none, none, some (.ifCond .eq 12, 3, [25], 0, 0), none, none, some (.iload 4, 2, [4], 0, 0), none, some (.iconst 2, 1, [], 2, 0), some (.invokestatic 186, 3, [2, 151, 2, 0], 0, 0), none, none, some (.ifCond .ne 9, 3, [31], 0, 0), none, none, some (.aload_n 0, 1, [0], 0, 0), some (.iconst 1, 1, [], 1, 0), some (.invokevirtual 128, 3, [0, 146, 2, 0], 0, 0), none, none, some (.ireturn, 1, [], 0, 0), some (.aload_n 0, 1, [0], 0, 0)],
  [some (.iload_n 1, 1, [1], 0, 0), some (.iload_n 2, 1, [2], 0, 0), some (.iload_n 3, 1, [3], 0, 0), some (.iconst 0, 1, [], 0, 0), some (.invokevirtual 283, 3, [0, 161, 5, 3], 0, 0), none, none, some (.aload_n 0, 1, [0], 0, 0), some (.getfield 53, 3, [11, 6, 2, 0, 10, 41], 0, 0), none, none, some (.getfield 287, 3, [10, 4, 0], 0, 0), none, none, some (.ifCond .ne 10, 3, [56], 0, 0), none, none, some (.aload_n 0, 1, [0], 0, 0), some (.bipush 6, 2, [], 6, 0), none, some (.invokevirtual 128, 3, [0, 146, 2, 0], 0, 0), none, none, some (.ireturn, 1, [], 0, 0), some (.aload_n 0, 1, [0], 0, 0), some (.iload 4, 2, [4], 0, 0), none, some (.ifCond .ne 13, 3, [72], 0, 0), none, none, some (.aload_n 0, 1, [0], 0, 0), some (.getfield 53, 3, [11, 6, 2, 0, 10, 41], 0, 0)],
  [none, none, some (.getfield 293, 3, [10, 6, 0], 0, 0), none, none, some (.goto 10, 3, [79], 0, 0), none, none, some (.aload_n 0, 1, [0], 0, 0), some (.getfield 53, 3, [11, 6, 2, 0, 10, 41], 0, 0), none, none, some (.getfield 296, 3, [10, 7, 0], 0, 0), none, none, some (.invokevirtual 183, 3, [0, 144, 2, 0], 0, 0), none, none, some (.ireturn, 1, [], 0, 0)]]
def f_S_ends (N : Nat) (a1 : Int32) (a2 : Int32) (a3 : Int32) (a4 : Int32) (h : MH) : Option (Int32 × MH) :=
  (f_S_areYears N a1 a2 h).bind (fun x1 =>
  if x1.1 = 0 then
  ((f_S_refuse N 1 x1.2).bind (fun x2 =>
  some (x2.1, x2.2)))
  else
  ((f_S_isSetOfCells N a3 x1.2).bind (fun x3 =>
  if x3.1 = 0 then
  ((f_S_refuse N 1 x3.2).bind (fun x4 =>
  some (x4.1, x4.2)))
  else
  ((f_S_isOneOf N a4 2 x3.2).bind (fun x5 =>
  if x5.1 = 0 then
  ((f_S_refuse N 1 x5.2).bind (fun x6 =>
  some (x6.1, x6.2)))
  else
  ((f_S_walkAll N a1 a2 a3 0 x5.2).bind (fun x7 =>
  if (gI x7 42 4) = 0 then
  ((f_S_refuse N 6 x7).bind (fun x8 =>
  some (x8.1, x8.2)))
  else
  (if a4 = 0 then
  ((f_S_answer N (gI x7 42 6) x7).bind (fun x9 =>
  some (x9.1, x9.2)))
  else
  ((f_S_answer N (gI x7 42 7) x7).bind (fun x10 =>
  some (x10.1, x10.2)))))))))))
def C_S_ends (N : Nat) : MC := (KDL, false, (fun _ => 0), jsB, (fun j => match Nat.beq j 144 with
    | true => w_S_answer (f_S_answer N)
    | false => match Nat.beq j 146 with
    | true => w_S_refuse (f_S_refuse N)
    | false => match Nat.beq j 151 with
    | true => w_S_isOneOf (f_S_isOneOf N)
    | false => match Nat.beq j 154 with
    | true => w_S_areYears (f_S_areYears N)
    | false => match Nat.beq j 158 with
    | true => w_S_isSetOfCells (f_S_isSetOfCells N)
    | false => fun _ _ => none), (fun _ _ _ => none), (fun _ _ _ => none), (fun j => match Nat.beq j 161 with
    | true => w_S_walkAll (f_S_walkAll N)
    | false => fun _ _ => none))
def D_S_ends (N : Nat) (n pc : Nat) (lv : ML) (st : List MV) (h : MH) : Option (Int32 × MH) :=
  match Nat.beq pc 0 with
  | true => (match lk lv 0, lk lv 1, lk lv 2, lk lv 3, lk lv 4, st with
    | some (.inr (.inr (0, 11, 1))), some (.inl a1), some (.inl a2), some (.inl a3), some (.inl a4), [] => f_S_ends N a1 a2 a3 a4 h
    | _, _, _, _, _, _ => none)
  | false => none
set_option maxRecDepth 1000000 in
theorem E_S_ends_0 (N : Nat) (n : Nat) (a1 : Int32) (a2 : Int32) (a3 : Int32) (a4 : Int32) (h : MH) : seg (C_S_ends N) 5 0 rI T_S_ends [0] (fun q lv st h => match Nat.ble 1 q with
    | true => D_S_ends N n q lv st h
    | false => none) 400 true 0 [(0, .inr (.inr (0, 11, 1))), (1, .inl a1), (2, .inl a2), (3, .inl a3), (4, .inl a4)] [] h = f_S_ends N a1 a2 a3 a4 h := (rfl)
set_option maxRecDepth 1000000 in
theorem chk_S_ends : chkT 11 false prog_1_method_23_code T_S_ends = true := by decide +kernel
theorem mc_S_ends : mC 130 = prog_1_method_23_code := by rfl
theorem mx_S_ends : mL 130 = 5 ∧ mR 130 = some .int ∧ mK 130 = 1 ∧ (mN 130).cls = cN 11 := by decide +kernel
theorem hD_S_ends (N : Nat) {r : Int32 × MH} : ∀ n pc lv st h, D_S_ends N n pc lv st h = some r → ∃ lv', (∀ q ∈ lv', q ∈ lv) ∧ seg (C_S_ends N) 5 0 rI T_S_ends [0] (fun q lv st h => match Nat.ble (pc + 1) q with
    | true => D_S_ends N n q lv st h
    | false => none) 400 true pc lv' st h = some r := by
  intro n pc lv st h hf
  unfold D_S_ends at hf
  split at hf
  · rename_i hb
    have hb := Nat.eq_of_beq_eq_true hb
    subst hb
    split at hf
    · rename_i y0 y1 y2 y3 e0 e1 e2 e3 e4
      exact ⟨_, (sub_cons e0 (sub_cons e1 (sub_cons e2 (sub_cons e3 (sub_cons e4 sub_nil))))), (E_S_ends_0 N n _ _ _ _ h).trans hf⟩
    · cases hf
  · skip
    cases hf
theorem hM_S_ends (N : Nat) {r : Int32 × MH} : ∀ n pc lv st h, D_S_ends N n pc lv st h = some r → pc < 83 := by
  intro n pc lv st h hf
  unfold D_S_ends at hf
  split at hf
  · rename_i hb
    rw [Nat.eq_of_beq_eq_true hb]
    decide
  · skip
    cases hf
theorem s_S_ends {l : Launch} {E : EV} {N : Nat} {as : List MV} {h : MH} {r : Int32 × MH} (hf : w_S_ends (f_S_ends N) as h = some r) : SndM l E false 14 130 as h (some (.inl r.1)) r.2 := by
  unfold w_S_ends at hf
  split at hf
  · obtain ⟨m1, m2, m3, m4⟩ := mx_S_ends
    refine snd_of (C := C_S_ends N) (own := 11) (rz := 0) (lim := 115) rI_eq m2 m4 pl_130 (TB_in _ cw_130 rfl) ⟨(fun _ => ⟨_, _, _, _, _, _, rfl, rfl, by rw [m4]; rfl⟩), (fun z => by rw [m3] at z; cases z)⟩ (fun z => by cases z) KDL_take rfl rfl (fun z => by cases z) (fun z => by cases z) (fun _ => rfl) (by rw [m1]; exact Nat.le_of_ble_eq_true rfl)
      (fun j as h x z => by
      dsimp only [C_S_ends] at z
      cases hb : Nat.beq j 144 with
      | true =>
        have hb := Nat.eq_of_beq_eq_true hb
        subst hb
        exact ⟨0, by decide, (fun z => by cases z), s_S_answer z⟩
      | false =>
        rw [hb] at z
        dsimp only at z
        cases hb : Nat.beq j 146 with
        | true =>
          have hb := Nat.eq_of_beq_eq_true hb
          subst hb
          exact ⟨0, by decide, (fun z => by cases z), s_S_refuse z⟩
        | false =>
          rw [hb] at z
          dsimp only at z
          cases hb : Nat.beq j 151 with
          | true =>
            have hb := Nat.eq_of_beq_eq_true hb
            subst hb
            exact ⟨0, by decide, (fun z => by cases z), s_S_isOneOf z⟩
          | false =>
            rw [hb] at z
            dsimp only at z
            cases hb : Nat.beq j 154 with
            | true =>
              have hb := Nat.eq_of_beq_eq_true hb
              subst hb
              exact ⟨2, by decide, (fun z => by cases z), s_S_areYears z⟩
            | false =>
              rw [hb] at z
              dsimp only at z
              cases hb : Nat.beq j 158 with
              | true =>
                have hb := Nat.eq_of_beq_eq_true hb
                subst hb
                exact ⟨1, by decide, (fun z => by cases z), s_S_isSetOfCells z⟩
              | false =>
                rw [hb] at z
                dsimp only at z
                cases z)
      (fun _ _ _ _ z => by cases z)
      (fun _ _ _ _ z => by cases z)
      (fun j as h x z => by
      dsimp only [C_S_ends] at z
      cases hb : Nat.beq j 161 with
      | true =>
        have hb := Nat.eq_of_beq_eq_true hb
        subst hb
        exact ⟨13, by decide, (fun z => by cases z), s_S_walkAll z⟩
      | false =>
        rw [hb] at z
        dsimp only at z
        cases z)
      (fun p e R s m args below meth c Q n0 F hret => ?_)
    rw [m1] at F hret ⊢
    rw [mc_S_ends] at F hret
    exact cuts_s (K := 400) (M := 83) (D := D_S_ends N) (B := fun _ _ _ _ _ => none) F hret (chkT_ok chk_S_ends) (hM_S_ends N) (fun _ _ _ _ _ z => by cases z) (hD_S_ends N) N 0 _ _ _ hf
  · cases hf
def T_S_first : List (List (Option RW)) := [
  [some (.iload_n 1, 1, [1], 0, 0), some (.iload_n 2, 1, [2], 0, 0), some (.invokestatic 280, 3, [2, 154, 2, 0], 0, 0), none, none, some (.ifCond .eq 11, 3, [16], 0, 0), none, none, some (.aload_n 0, 1, [0], 0, 0), some (.iload_n 3, 1, [3], 0, 0), some (.invokevirtual 195, 3, [0, 156, 2, 0], 0, 0), none, none, some (.ifCond .ne 9, 3, [22], 0, 0), none, none, some (.aload_n 0, 1, [0], 0, 0), some (.iconst 1, 1, [], 1, 0), some (.invokevirtual 128, 3, [0, 146, 2, 0], 0, 0), none, none, some (.ireturn, 1, [], 0, 0), some (.aload_n 0, 1, [0], 0, 0), some (.getfield 46, 3, [11, 5, 2, 0, 0, 32], 0, 0), none, none, some (.aload_n 0, 1, [0], 0, 0), some (.getfield 81, 3, [11, 11, 3, 0, 2], 0, 0), none, none, some (.aload_n 0, 1, [0], 0, 0), some (.getfield 25, 3, [11, 2, 2, 0, 3, 15], 0, 0)],
  [none, none, some (.iload_n 1, 1, [1], 0, 0), some (.iload_n 2, 1, [2], 0, 0), some (.invokevirtual 299, 3, [1, 1, 5, 3], 0, 0), none, none, some (.aload_n 0, 1, [0], 0, 0), some (.getfield 53, 3, [11, 6, 2, 0, 10, 41], 0, 0), none, none, some (.aload_n 0, 1, [0], 0, 0), some (.getfield 46, 3, [11, 5, 2, 0, 0, 32], 0, 0), none, none, some (.aload_n 0, 1, [0], 0, 0), some (.getfield 46, 3, [11, 5, 2, 0, 0, 32], 0, 0), none, none, some (.getfield 303, 3, [0, 2, 0], 0, 0), none, none, some (.aload_n 0, 1, [0], 0, 0), some (.getfield 95, 3, [11, 15, 0], 0, 0), none, none, some (.invokevirtual 306, 3, [1, 93, 4, 0], 0, 0), none, none, some (.ifCond .ne 10, 3, [71], 0, 0), none, none],
  [some (.aload_n 0, 1, [0], 0, 0), some (.bipush 6, 2, [], 6, 0), none, some (.invokevirtual 128, 3, [0, 146, 2, 0], 0, 0), none, none, some (.ireturn, 1, [], 0, 0), some (.aload_n 0, 1, [0], 0, 0), some (.aload_n 0, 1, [0], 0, 0), some (.getfield 53, 3, [11, 6, 2, 0, 10, 41], 0, 0), none, none, some (.getfield 310, 3, [10, 8, 2, 1, 6, 1], 0, 0), none, none, some (.iload_n 3, 1, [3], 0, 0), some (.iaload, 1, [], 0, 0), some (.invokevirtual 183, 3, [0, 144, 2, 0], 0, 0), none, none, some (.ireturn, 1, [], 0, 0)]]
def f_S_first (N : Nat) (a1 : Int32) (a2 : Int32) (a3 : Int32) (h : MH) : Option (Int32 × MH) :=
  (f_S_areYears N a1 a2 h).bind (fun x1 =>
  if x1.1 = 0 then
  ((f_S_refuse N 1 x1.2).bind (fun x2 =>
  some (x2.1, x2.2)))
  else
  ((f_S_isCell N a3 x1.2).bind (fun x3 =>
  if x3.1 = 0 then
  ((f_S_refuse N 1 x3.2).bind (fun x4 =>
  some (x4.1, x4.2)))
  else
  ((f_Asked_prepare N (gR x3.2 1 11) a1 a2 x3.2).bind (fun x5 =>
  (f_Walk_finds N (gI x5 33 2) (gI x5 1 15) x5).bind (fun x6 =>
  if x6.1 = 0 then
  ((f_S_refuse N 6 x6.2).bind (fun x7 =>
  some (x7.1, x7.2)))
  else
  (if inB a3 6 = true then
  ((f_S_answer N (gI x6.2 43 (iN a3)) x6.2).bind (fun x8 =>
  some (x8.1, x8.2)))
  else none)))))))
def C_S_first (N : Nat) : MC := (KDL, false, (fun _ => 0), jsB, (fun j => match Nat.beq j 93 with
    | true => w_Walk_finds (f_Walk_finds N)
    | false => match Nat.beq j 144 with
    | true => w_S_answer (f_S_answer N)
    | false => match Nat.beq j 146 with
    | true => w_S_refuse (f_S_refuse N)
    | false => match Nat.beq j 154 with
    | true => w_S_areYears (f_S_areYears N)
    | false => match Nat.beq j 156 with
    | true => w_S_isCell (f_S_isCell N)
    | false => fun _ _ => none), (fun _ _ _ => none), (fun _ _ _ => none), (fun j => match Nat.beq j 1 with
    | true => w_Asked_prepare (f_Asked_prepare N)
    | false => fun _ _ => none))
def D_S_first (N : Nat) (n pc : Nat) (lv : ML) (st : List MV) (h : MH) : Option (Int32 × MH) :=
  match Nat.beq pc 0 with
  | true => (match lk lv 0, lk lv 1, lk lv 2, lk lv 3, st with
    | some (.inr (.inr (0, 11, 1))), some (.inl a1), some (.inl a2), some (.inl a3), [] => f_S_first N a1 a2 a3 h
    | _, _, _, _, _ => none)
  | false => none
set_option maxRecDepth 1000000 in
theorem E_S_first_0 (N : Nat) (n : Nat) (a1 : Int32) (a2 : Int32) (a3 : Int32) (h : MH) : seg (C_S_first N) 4 0 rI T_S_first [0] (fun q lv st h => match Nat.ble 1 q with
    | true => D_S_first N n q lv st h
    | false => none) 400 true 0 [(0, .inr (.inr (0, 11, 1))), (1, .inl a1), (2, .inl a2), (3, .inl a3)] [] h = f_S_first N a1 a2 a3 h := (rfl)
set_option maxRecDepth 1000000 in
theorem chk_S_first : chkT 11 false prog_1_method_24_code T_S_first = true := by decide +kernel
theorem mc_S_first : mC 131 = prog_1_method_24_code := by rfl
theorem mx_S_first : mL 131 = 4 ∧ mR 131 = some .int ∧ mK 131 = 1 ∧ (mN 131).cls = cN 11 := by decide +kernel
theorem hD_S_first (N : Nat) {r : Int32 × MH} : ∀ n pc lv st h, D_S_first N n pc lv st h = some r → ∃ lv', (∀ q ∈ lv', q ∈ lv) ∧ seg (C_S_first N) 4 0 rI T_S_first [0] (fun q lv st h => match Nat.ble (pc + 1) q with
    | true => D_S_first N n q lv st h
    | false => none) 400 true pc lv' st h = some r := by
  intro n pc lv st h hf
  unfold D_S_first at hf
  split at hf
  · rename_i hb
    have hb := Nat.eq_of_beq_eq_true hb
    subst hb
    split at hf
    · rename_i y0 y1 y2 e0 e1 e2 e3
      exact ⟨_, (sub_cons e0 (sub_cons e1 (sub_cons e2 (sub_cons e3 sub_nil)))), (E_S_first_0 N n _ _ _ h).trans hf⟩
    · cases hf
  · skip
    cases hf
theorem hM_S_first (N : Nat) {r : Int32 × MH} : ∀ n pc lv st h, D_S_first N n pc lv st h = some r → pc < 85 := by
  intro n pc lv st h hf
  unfold D_S_first at hf
  split at hf
  · rename_i hb
    rw [Nat.eq_of_beq_eq_true hb]
    decide
  · skip
    cases hf
theorem s_S_first {l : Launch} {E : EV} {N : Nat} {as : List MV} {h : MH} {r : Int32 × MH} (hf : w_S_first (f_S_first N) as h = some r) : SndM l E false 13 131 as h (some (.inl r.1)) r.2 := by
  unfold w_S_first at hf
  split at hf
  · obtain ⟨m1, m2, m3, m4⟩ := mx_S_first
    refine snd_of (C := C_S_first N) (own := 11) (rz := 0) (lim := 115) rI_eq m2 m4 pl_131 (TB_in _ cw_131 rfl) ⟨(fun _ => ⟨_, _, _, _, _, _, rfl, rfl, by rw [m4]; rfl⟩), (fun z => by rw [m3] at z; cases z)⟩ (fun z => by cases z) KDL_take rfl rfl (fun z => by cases z) (fun z => by cases z) (fun _ => rfl) (by rw [m1]; exact Nat.le_of_ble_eq_true rfl)
      (fun j as h x z => by
      dsimp only [C_S_first] at z
      cases hb : Nat.beq j 93 with
      | true =>
        have hb := Nat.eq_of_beq_eq_true hb
        subst hb
        exact ⟨12, by decide, (fun z => by cases z), s_Walk_finds z⟩
      | false =>
        rw [hb] at z
        dsimp only at z
        cases hb : Nat.beq j 144 with
        | true =>
          have hb := Nat.eq_of_beq_eq_true hb
          subst hb
          exact ⟨0, by decide, (fun z => by cases z), s_S_answer z⟩
        | false =>
          rw [hb] at z
          dsimp only at z
          cases hb : Nat.beq j 146 with
          | true =>
            have hb := Nat.eq_of_beq_eq_true hb
            subst hb
            exact ⟨0, by decide, (fun z => by cases z), s_S_refuse z⟩
          | false =>
            rw [hb] at z
            dsimp only at z
            cases hb : Nat.beq j 154 with
            | true =>
              have hb := Nat.eq_of_beq_eq_true hb
              subst hb
              exact ⟨2, by decide, (fun z => by cases z), s_S_areYears z⟩
            | false =>
              rw [hb] at z
              dsimp only at z
              cases hb : Nat.beq j 156 with
              | true =>
                have hb := Nat.eq_of_beq_eq_true hb
                subst hb
                exact ⟨1, by decide, (fun z => by cases z), s_S_isCell z⟩
              | false =>
                rw [hb] at z
                dsimp only at z
                cases z)
      (fun _ _ _ _ z => by cases z)
      (fun _ _ _ _ z => by cases z)
      (fun j as h x z => by
      dsimp only [C_S_first] at z
      cases hb : Nat.beq j 1 with
      | true =>
        have hb := Nat.eq_of_beq_eq_true hb
        subst hb
        exact ⟨2, by decide, (fun z => by cases z), s_Asked_prepare z⟩
      | false =>
        rw [hb] at z
        dsimp only at z
        cases z)
      (fun p e R s m args below meth c Q n0 F hret => ?_)
    rw [m1] at F hret ⊢
    rw [mc_S_first] at F hret
    exact cuts_s (K := 400) (M := 85) (D := D_S_first N) (B := fun _ _ _ _ _ => none) F hret (chkT_ok chk_S_first) (hM_S_first N) (fun _ _ _ _ _ z => by cases z) (hD_S_first N) N 0 _ _ _ hf
  · cases hf
def T_S_corner : List (List (Option RW)) := [
  [some (.iload_n 1, 1, [1], 0, 0), some (.iload_n 2, 1, [2], 0, 0), some (.invokestatic 280, 3, [2, 154, 2, 0], 0, 0), none, none, some (.ifCond .ne 9, 3, [14], 0, 0), none, none, some (.aload_n 0, 1, [0], 0, 0), some (.iconst 1, 1, [], 1, 0), some (.invokevirtual 128, 3, [0, 146, 2, 0], 0, 0), none, none, some (.ireturn, 1, [], 0, 0), some (.aload_n 0, 1, [0], 0, 0), some (.getfield 81, 3, [11, 11, 3, 0, 2], 0, 0), none, none, some (.getfield 189, 3, [2, 0, 0], 0, 0), none, none, some (.ifCond .ne 10, 3, [31], 0, 0), none, none, some (.aload_n 0, 1, [0], 0, 0), some (.bipush 6, 2, [], 6, 0), none, some (.invokevirtual 128, 3, [0, 146, 2, 0], 0, 0), none, none, some (.ireturn, 1, [], 0, 0), some (.aload_n 0, 1, [0], 0, 0)],
  [some (.getfield 46, 3, [11, 5, 2, 0, 0, 32], 0, 0), none, none, some (.aload_n 0, 1, [0], 0, 0), some (.getfield 81, 3, [11, 11, 3, 0, 2], 0, 0), none, none, some (.aload_n 0, 1, [0], 0, 0), some (.getfield 25, 3, [11, 2, 2, 0, 3, 15], 0, 0), none, none, some (.iload_n 1, 1, [1], 0, 0), some (.iload_n 2, 1, [2], 0, 0), some (.invokevirtual 299, 3, [1, 1, 5, 3], 0, 0), none, none, some (.iconst 0, 1, [], 0, 0), some (.istore_n 3, 1, [3], 0, 0), some (.iload_n 3, 1, [3], 0, 0), some (.bipush 9, 2, [], 9, 0), none, some (.if_icmp .gt 37, 3, [90], 0, 0), none, none, some (.aload_n 0, 1, [0], 0, 0), some (.getfield 53, 3, [11, 6, 2, 0, 10, 41], 0, 0), none, none, some (.aload_n 0, 1, [0], 0, 0), some (.getfield 46, 3, [11, 5, 2, 0, 0, 32], 0, 0), none, none],
  [some (.aload_n 0, 1, [0], 0, 0), some (.getfield 46, 3, [11, 5, 2, 0, 0, 32], 0, 0), none, none, some (.getfield 303, 3, [0, 2, 0], 0, 0), none, none, some (.iload_n 3, 1, [3], 0, 0), some (.invokevirtual 306, 3, [1, 93, 4, 0], 0, 0), none, none, some (.ifCond .eq 9, 3, [84], 0, 0), none, none, some (.aload_n 0, 1, [0], 0, 0), some (.iload_n 3, 1, [3], 0, 0), some (.invokevirtual 183, 3, [0, 144, 2, 0], 0, 0), none, none, some (.ireturn, 1, [], 0, 0), some (.iinc 3 1, 3, [3], 1, 0), none, none, some (.goto (-37), 3, [50], 0, 0), none, none, some (.aload_n 0, 1, [0], 0, 0), some (.bipush 6, 2, [], 6, 0), none, some (.invokevirtual 128, 3, [0, 146, 2, 0], 0, 0), none, none],
  [some (.ireturn, 1, [], 0, 0)]]
def F_S_corner_50 (N : Nat) (bk : (Int32 → MH → Option (Int32 × MH))) (a3 : Int32) (h : MH) : Option (Int32 × MH) :=
  if 9 < a3 then
  ((f_S_refuse N 6 h).bind (fun x5 =>
  some (x5.1, x5.2)))
  else
  ((f_Walk_finds N (gI h 33 2) a3 h).bind (fun x6 =>
  if x6.1 = 0 then
  (let v7 : Int32 := a3 + 1
  bk v7 x6.2)
  else
  ((f_S_answer N a3 x6.2).bind (fun x8 =>
  some (x8.1, x8.2)))))
def F_S_corner_0 (N : Nat) (bk : (Int32 → MH → Option (Int32 × MH))) (a1 : Int32) (a2 : Int32) (h : MH) : Option (Int32 × MH) :=
  (f_S_areYears N a1 a2 h).bind (fun x1 =>
  if x1.1 = 0 then
  ((f_S_refuse N 1 x1.2).bind (fun x2 =>
  some (x2.1, x2.2)))
  else
  (if (gI x1.2 (gR x1.2 1 11) 0) = 0 then
  ((f_S_refuse N 6 x1.2).bind (fun x3 =>
  some (x3.1, x3.2)))
  else
  ((f_Asked_prepare N (gR x1.2 1 11) a1 a2 x1.2).bind (fun x4 =>
  F_S_corner_50 N bk 0 x4))))
def L_S_corner (N : Nat) : Nat → (Int32 → MH → Option (Int32 × MH))
  | 0 => fun _ _ => none
  | n + 1 => F_S_corner_50 N (L_S_corner N n)
def f_S_corner (N : Nat) (a1 : Int32) (a2 : Int32) (h : MH) : Option (Int32 × MH) := F_S_corner_0 N (L_S_corner N N) a1 a2 h
def C_S_corner (N : Nat) : MC := (KDL, false, (fun _ => 0), jsB, (fun j => match Nat.beq j 93 with
    | true => w_Walk_finds (f_Walk_finds N)
    | false => match Nat.beq j 144 with
    | true => w_S_answer (f_S_answer N)
    | false => match Nat.beq j 146 with
    | true => w_S_refuse (f_S_refuse N)
    | false => match Nat.beq j 154 with
    | true => w_S_areYears (f_S_areYears N)
    | false => fun _ _ => none), (fun _ _ _ => none), (fun _ _ _ => none), (fun j => match Nat.beq j 1 with
    | true => w_Asked_prepare (f_Asked_prepare N)
    | false => fun _ _ => none))
def D_S_corner (N : Nat) (n pc : Nat) (lv : ML) (st : List MV) (h : MH) : Option (Int32 × MH) :=
  match Nat.beq pc 0 with
  | true => (match lk lv 0, lk lv 1, lk lv 2, st with
    | some (.inr (.inr (0, 11, 1))), some (.inl a1), some (.inl a2), [] => F_S_corner_0 N (L_S_corner N n) a1 a2 h
    | _, _, _, _ => none)
  | false => match Nat.beq pc 50 with
  | true => (match lk lv 0, lk lv 3, st with
    | some (.inr (.inr (0, 11, 1))), some (.inl a3), [] => F_S_corner_50 N (L_S_corner N n) a3 h
    | _, _, _ => none)
  | false => none
def B_S_corner (N : Nat) (n pc : Nat) (lv : ML) (st : List MV) (h : MH) : Option (Int32 × MH) :=
  match Nat.beq pc 50 with
  | true => (match lk lv 0, lk lv 3, st with
    | some (.inr (.inr (0, 11, 1))), some (.inl a3), [] => ((L_S_corner N n)) a3 h
    | _, _, _ => none)
  | false => none
set_option maxRecDepth 1000000 in
theorem E_S_corner_0 (N : Nat) (n : Nat) (a1 : Int32) (a2 : Int32) (h : MH) : seg (C_S_corner N) 4 0 rI T_S_corner [0, 50] (fun q lv st h => match Nat.ble 1 q with
    | true => D_S_corner N n q lv st h
    | false => B_S_corner N n q lv st h) 400 true 0 [(0, .inr (.inr (0, 11, 1))), (1, .inl a1), (2, .inl a2)] [] h = F_S_corner_0 N (L_S_corner N n) a1 a2 h := (rfl)
set_option maxRecDepth 1000000 in
theorem E_S_corner_50 (N : Nat) (n : Nat) (a3 : Int32) (h : MH) : seg (C_S_corner N) 4 0 rI T_S_corner [0, 50] (fun q lv st h => match Nat.ble 51 q with
    | true => D_S_corner N n q lv st h
    | false => B_S_corner N n q lv st h) 400 true 50 [(0, .inr (.inr (0, 11, 1))), (3, .inl a3)] [] h = F_S_corner_50 N (L_S_corner N n) a3 h := (rfl)
set_option maxRecDepth 1000000 in
theorem chk_S_corner : chkT 11 false prog_1_method_25_code T_S_corner = true := by decide +kernel
theorem mc_S_corner : mC 132 = prog_1_method_25_code := by rfl
theorem mx_S_corner : mL 132 = 4 ∧ mR 132 = some .int ∧ mK 132 = 1 ∧ (mN 132).cls = cN 11 := by decide +kernel
theorem hD_S_corner (N : Nat) {r : Int32 × MH} : ∀ n pc lv st h, D_S_corner N n pc lv st h = some r → ∃ lv', (∀ q ∈ lv', q ∈ lv) ∧ seg (C_S_corner N) 4 0 rI T_S_corner [0, 50] (fun q lv st h => match Nat.ble (pc + 1) q with
    | true => D_S_corner N n q lv st h
    | false => B_S_corner N n q lv st h) 400 true pc lv' st h = some r := by
  intro n pc lv st h hf
  unfold D_S_corner at hf
  split at hf
  · rename_i hb
    have hb := Nat.eq_of_beq_eq_true hb
    subst hb
    split at hf
    · rename_i y0 y1 e0 e1 e2
      exact ⟨_, (sub_cons e0 (sub_cons e1 (sub_cons e2 sub_nil))), (E_S_corner_0 N n _ _ h).trans hf⟩
    · cases hf
  · skip
    split at hf
    · rename_i hb
      have hb := Nat.eq_of_beq_eq_true hb
      subst hb
      split at hf
      · rename_i y0 e0 e1
        exact ⟨_, (sub_cons e0 (sub_cons e1 sub_nil)), (E_S_corner_50 N n _ h).trans hf⟩
      · cases hf
    · skip
      cases hf
theorem hM_S_corner (N : Nat) {r : Int32 × MH} : ∀ n pc lv st h, D_S_corner N n pc lv st h = some r → pc < 97 := by
  intro n pc lv st h hf
  unfold D_S_corner at hf
  split at hf
  · rename_i hb
    rw [Nat.eq_of_beq_eq_true hb]
    decide
  · skip
    split at hf
    · rename_i hb
      rw [Nat.eq_of_beq_eq_true hb]
      decide
    · skip
      cases hf
theorem hB_S_corner (N : Nat) {r : Int32 × MH} : ∀ n pc lv st h, B_S_corner N n pc lv st h = some r → ∃ k, n = k + 1 ∧ D_S_corner N k pc lv st h = some r := by
  intro n pc lv st h hf
  unfold B_S_corner at hf
  split at hf
  · rename_i hb
    have hb := Nat.eq_of_beq_eq_true hb
    subst hb
    cases n with
    | zero =>
      split at hf
      · cases hf
      · cases hf
    | succ k =>
      refine ⟨k, rfl, ?_⟩
      exact hf
  · skip
    cases hf
theorem s_S_corner {l : Launch} {E : EV} {N : Nat} {as : List MV} {h : MH} {r : Int32 × MH} (hf : w_S_corner (f_S_corner N) as h = some r) : SndM l E false 13 132 as h (some (.inl r.1)) r.2 := by
  unfold w_S_corner at hf
  split at hf
  · obtain ⟨m1, m2, m3, m4⟩ := mx_S_corner
    refine snd_of (C := C_S_corner N) (own := 11) (rz := 0) (lim := 115) rI_eq m2 m4 pl_132 (TB_in _ cw_132 rfl) ⟨(fun _ => ⟨_, _, _, _, _, _, rfl, rfl, by rw [m4]; rfl⟩), (fun z => by rw [m3] at z; cases z)⟩ (fun z => by cases z) KDL_take rfl rfl (fun z => by cases z) (fun z => by cases z) (fun _ => rfl) (by rw [m1]; exact Nat.le_of_ble_eq_true rfl)
      (fun j as h x z => by
      dsimp only [C_S_corner] at z
      cases hb : Nat.beq j 93 with
      | true =>
        have hb := Nat.eq_of_beq_eq_true hb
        subst hb
        exact ⟨12, by decide, (fun z => by cases z), s_Walk_finds z⟩
      | false =>
        rw [hb] at z
        dsimp only at z
        cases hb : Nat.beq j 144 with
        | true =>
          have hb := Nat.eq_of_beq_eq_true hb
          subst hb
          exact ⟨0, by decide, (fun z => by cases z), s_S_answer z⟩
        | false =>
          rw [hb] at z
          dsimp only at z
          cases hb : Nat.beq j 146 with
          | true =>
            have hb := Nat.eq_of_beq_eq_true hb
            subst hb
            exact ⟨0, by decide, (fun z => by cases z), s_S_refuse z⟩
          | false =>
            rw [hb] at z
            dsimp only at z
            cases hb : Nat.beq j 154 with
            | true =>
              have hb := Nat.eq_of_beq_eq_true hb
              subst hb
              exact ⟨2, by decide, (fun z => by cases z), s_S_areYears z⟩
            | false =>
              rw [hb] at z
              dsimp only at z
              cases z)
      (fun _ _ _ _ z => by cases z)
      (fun _ _ _ _ z => by cases z)
      (fun j as h x z => by
      dsimp only [C_S_corner] at z
      cases hb : Nat.beq j 1 with
      | true =>
        have hb := Nat.eq_of_beq_eq_true hb
        subst hb
        exact ⟨2, by decide, (fun z => by cases z), s_Asked_prepare z⟩
      | false =>
        rw [hb] at z
        dsimp only at z
        cases z)
      (fun p e R s m args below meth c Q n0 F hret => ?_)
    rw [m1] at F hret ⊢
    rw [mc_S_corner] at F hret
    exact cuts_s (K := 400) (M := 97) (D := D_S_corner N) (B := B_S_corner N) F hret (chkT_ok chk_S_corner) (hM_S_corner N) (hB_S_corner N) (hD_S_corner N) N 0 _ _ _ hf
  · cases hf
def T_S_quarrel : List (List (Option RW)) := [
  [some (.iload_n 1, 1, [1], 0, 0), some (.iload_n 2, 1, [2], 0, 0), some (.invokestatic 280, 3, [2, 154, 2, 0], 0, 0), none, none, some (.ifCond .eq 11, 3, [16], 0, 0), none, none, some (.iload_n 3, 1, [3], 0, 0), some (.iconst 3, 1, [], 3, 0), some (.invokestatic 186, 3, [2, 151, 2, 0], 0, 0), none, none, some (.ifCond .ne 9, 3, [22], 0, 0), none, none, some (.aload_n 0, 1, [0], 0, 0), some (.iconst 1, 1, [], 1, 0), some (.invokevirtual 128, 3, [0, 146, 2, 0], 0, 0), none, none, some (.ireturn, 1, [], 0, 0), some (.aload_n 0, 1, [0], 0, 0), some (.getfield 81, 3, [11, 11, 3, 0, 2], 0, 0), none, none, some (.getfield 189, 3, [2, 0, 0], 0, 0), none, none, some (.ifCond .ne 10, 3, [39], 0, 0), none, none],
  [some (.aload_n 0, 1, [0], 0, 0), some (.bipush 6, 2, [], 6, 0), none, some (.invokevirtual 128, 3, [0, 146, 2, 0], 0, 0), none, none, some (.ireturn, 1, [], 0, 0), some (.aload_n 0, 1, [0], 0, 0), some (.getfield 46, 3, [11, 5, 2, 0, 0, 32], 0, 0), none, none, some (.aload_n 0, 1, [0], 0, 0), some (.getfield 81, 3, [11, 11, 3, 0, 2], 0, 0), none, none, some (.aload_n 0, 1, [0], 0, 0), some (.getfield 25, 3, [11, 2, 2, 0, 3, 15], 0, 0), none, none, some (.iload_n 1, 1, [1], 0, 0), some (.iload_n 2, 1, [2], 0, 0), some (.invokevirtual 299, 3, [1, 1, 5, 3], 0, 0), none, none, some (.aload_n 0, 1, [0], 0, 0), some (.getfield 53, 3, [11, 6, 2, 0, 10, 41], 0, 0), none, none, some (.aload_n 0, 1, [0], 0, 0), some (.getfield 46, 3, [11, 5, 2, 0, 0, 32], 0, 0), none, none],
  [some (.aload_n 0, 1, [0], 0, 0), some (.getfield 95, 3, [11, 15, 0], 0, 0), none, none, some (.invokevirtual 313, 3, [1, 104, 3, 3], 0, 0), none, none, some (.aload_n 0, 1, [0], 0, 0), some (.getfield 53, 3, [11, 6, 2, 0, 10, 41], 0, 0), none, none, some (.getfield 317, 3, [10, 15, 0], 0, 0), none, none, some (.ifCond .ne 10, 3, [88], 0, 0), none, none, some (.aload_n 0, 1, [0], 0, 0), some (.bipush 6, 2, [], 6, 0), none, some (.invokevirtual 128, 3, [0, 146, 2, 0], 0, 0), none, none, some (.ireturn, 1, [], 0, 0), some (.iload_n 3, 1, [3], 0, 0), some (.ifCond .ne 15, 3, [104], 0, 0), none, none, some (.aload_n 0, 1, [0], 0, 0), some (.aload_n 0, 1, [0], 0, 0), some (.getfield 53, 3, [11, 6, 2, 0, 10, 41], 0, 0), none],
  [none, some (.getfield 320, 3, [10, 13, 0], 0, 0), none, none, some (.invokevirtual 183, 3, [0, 144, 2, 0], 0, 0), none, none, some (.ireturn, 1, [], 0, 0), some (.aload_n 0, 1, [0], 0, 0), some (.iload_n 3, 1, [3], 0, 0), some (.iconst 1, 1, [], 1, 0), some (.if_icmp .ne 13, 3, [120], 0, 0), none, none, some (.aload_n 0, 1, [0], 0, 0), some (.getfield 53, 3, [11, 6, 2, 0, 10, 41], 0, 0), none, none, some (.getfield 323, 3, [10, 14, 0], 0, 0), none, none, some (.goto 10, 3, [127], 0, 0), none, none, some (.aload_n 0, 1, [0], 0, 0), some (.getfield 53, 3, [11, 6, 2, 0, 10, 41], 0, 0), none, none, some (.getfield 317, 3, [10, 15, 0], 0, 0), none, none, some (.invokevirtual 183, 3, [0, 144, 2, 0], 0, 0)],
  [none, none, some (.ireturn, 1, [], 0, 0)]]
def f_S_quarrel (N : Nat) (a1 : Int32) (a2 : Int32) (a3 : Int32) (h : MH) : Option (Int32 × MH) :=
  (f_S_areYears N a1 a2 h).bind (fun x1 =>
  if x1.1 = 0 then
  ((f_S_refuse N 1 x1.2).bind (fun x2 =>
  some (x2.1, x2.2)))
  else
  ((f_S_isOneOf N a3 3 x1.2).bind (fun x3 =>
  if x3.1 = 0 then
  ((f_S_refuse N 1 x3.2).bind (fun x4 =>
  some (x4.1, x4.2)))
  else
  (if (gI x3.2 (gR x3.2 1 11) 0) = 0 then
  ((f_S_refuse N 6 x3.2).bind (fun x5 =>
  some (x5.1, x5.2)))
  else
  ((f_Asked_prepare N (gR x3.2 1 11) a1 a2 x3.2).bind (fun x6 =>
  (f_Walk_findQuarrel N (gI x6 1 15) x6).bind (fun x7 =>
  if (gI x7 42 15) = 0 then
  ((f_S_refuse N 6 x7).bind (fun x8 =>
  some (x8.1, x8.2)))
  else
  (if a3 = 0 then
  ((f_S_answer N (gI x7 42 13) x7).bind (fun x9 =>
  some (x9.1, x9.2)))
  else
  (if a3 = 1 then
  ((f_S_answer N (gI x7 42 14) x7).bind (fun x10 =>
  some (x10.1, x10.2)))
  else
  ((f_S_answer N (gI x7 42 15) x7).bind (fun x11 =>
  some (x11.1, x11.2))))))))))))
def C_S_quarrel (N : Nat) : MC := (KDL, false, (fun _ => 0), jsB, (fun j => match Nat.beq j 144 with
    | true => w_S_answer (f_S_answer N)
    | false => match Nat.beq j 146 with
    | true => w_S_refuse (f_S_refuse N)
    | false => match Nat.beq j 151 with
    | true => w_S_isOneOf (f_S_isOneOf N)
    | false => match Nat.beq j 154 with
    | true => w_S_areYears (f_S_areYears N)
    | false => fun _ _ => none), (fun _ _ _ => none), (fun _ _ _ => none), (fun j => match Nat.beq j 1 with
    | true => w_Asked_prepare (f_Asked_prepare N)
    | false => match Nat.beq j 104 with
    | true => w_Walk_findQuarrel (f_Walk_findQuarrel N)
    | false => fun _ _ => none))
def D_S_quarrel (N : Nat) (n pc : Nat) (lv : ML) (st : List MV) (h : MH) : Option (Int32 × MH) :=
  match Nat.beq pc 0 with
  | true => (match lk lv 0, lk lv 1, lk lv 2, lk lv 3, st with
    | some (.inr (.inr (0, 11, 1))), some (.inl a1), some (.inl a2), some (.inl a3), [] => f_S_quarrel N a1 a2 a3 h
    | _, _, _, _, _ => none)
  | false => none
set_option maxRecDepth 1000000 in
theorem E_S_quarrel_0 (N : Nat) (n : Nat) (a1 : Int32) (a2 : Int32) (a3 : Int32) (h : MH) : seg (C_S_quarrel N) 4 0 rI T_S_quarrel [0] (fun q lv st h => match Nat.ble 1 q with
    | true => D_S_quarrel N n q lv st h
    | false => none) 400 true 0 [(0, .inr (.inr (0, 11, 1))), (1, .inl a1), (2, .inl a2), (3, .inl a3)] [] h = f_S_quarrel N a1 a2 a3 h := (rfl)
set_option maxRecDepth 1000000 in
theorem chk_S_quarrel : chkT 11 false prog_1_method_26_code T_S_quarrel = true := by decide +kernel
theorem mc_S_quarrel : mC 133 = prog_1_method_26_code := by rfl
theorem mx_S_quarrel : mL 133 = 4 ∧ mR 133 = some .int ∧ mK 133 = 1 ∧ (mN 133).cls = cN 11 := by decide +kernel
theorem hD_S_quarrel (N : Nat) {r : Int32 × MH} : ∀ n pc lv st h, D_S_quarrel N n pc lv st h = some r → ∃ lv', (∀ q ∈ lv', q ∈ lv) ∧ seg (C_S_quarrel N) 4 0 rI T_S_quarrel [0] (fun q lv st h => match Nat.ble (pc + 1) q with
    | true => D_S_quarrel N n q lv st h
    | false => none) 400 true pc lv' st h = some r := by
  intro n pc lv st h hf
  unfold D_S_quarrel at hf
  split at hf
  · rename_i hb
    have hb := Nat.eq_of_beq_eq_true hb
    subst hb
    split at hf
    · rename_i y0 y1 y2 e0 e1 e2 e3
      exact ⟨_, (sub_cons e0 (sub_cons e1 (sub_cons e2 (sub_cons e3 sub_nil)))), (E_S_quarrel_0 N n _ _ _ h).trans hf⟩
    · cases hf
  · skip
    cases hf
theorem hM_S_quarrel (N : Nat) {r : Int32 × MH} : ∀ n pc lv st h, D_S_quarrel N n pc lv st h = some r → pc < 131 := by
  intro n pc lv st h hf
  unfold D_S_quarrel at hf
  split at hf
  · rename_i hb
    rw [Nat.eq_of_beq_eq_true hb]
    decide
  · skip
    cases hf
theorem s_S_quarrel {l : Launch} {E : EV} {N : Nat} {as : List MV} {h : MH} {r : Int32 × MH} (hf : w_S_quarrel (f_S_quarrel N) as h = some r) : SndM l E false 12 133 as h (some (.inl r.1)) r.2 := by
  unfold w_S_quarrel at hf
  split at hf
  · obtain ⟨m1, m2, m3, m4⟩ := mx_S_quarrel
    refine snd_of (C := C_S_quarrel N) (own := 11) (rz := 0) (lim := 115) rI_eq m2 m4 pl_133 (TB_in _ cw_133 rfl) ⟨(fun _ => ⟨_, _, _, _, _, _, rfl, rfl, by rw [m4]; rfl⟩), (fun z => by rw [m3] at z; cases z)⟩ (fun z => by cases z) KDL_take rfl rfl (fun z => by cases z) (fun z => by cases z) (fun _ => rfl) (by rw [m1]; exact Nat.le_of_ble_eq_true rfl)
      (fun j as h x z => by
      dsimp only [C_S_quarrel] at z
      cases hb : Nat.beq j 144 with
      | true =>
        have hb := Nat.eq_of_beq_eq_true hb
        subst hb
        exact ⟨0, by decide, (fun z => by cases z), s_S_answer z⟩
      | false =>
        rw [hb] at z
        dsimp only at z
        cases hb : Nat.beq j 146 with
        | true =>
          have hb := Nat.eq_of_beq_eq_true hb
          subst hb
          exact ⟨0, by decide, (fun z => by cases z), s_S_refuse z⟩
        | false =>
          rw [hb] at z
          dsimp only at z
          cases hb : Nat.beq j 151 with
          | true =>
            have hb := Nat.eq_of_beq_eq_true hb
            subst hb
            exact ⟨0, by decide, (fun z => by cases z), s_S_isOneOf z⟩
          | false =>
            rw [hb] at z
            dsimp only at z
            cases hb : Nat.beq j 154 with
            | true =>
              have hb := Nat.eq_of_beq_eq_true hb
              subst hb
              exact ⟨2, by decide, (fun z => by cases z), s_S_areYears z⟩
            | false =>
              rw [hb] at z
              dsimp only at z
              cases z)
      (fun _ _ _ _ z => by cases z)
      (fun _ _ _ _ z => by cases z)
      (fun j as h x z => by
      dsimp only [C_S_quarrel] at z
      cases hb : Nat.beq j 1 with
      | true =>
        have hb := Nat.eq_of_beq_eq_true hb
        subst hb
        exact ⟨2, by decide, (fun z => by cases z), s_Asked_prepare z⟩
      | false =>
        rw [hb] at z
        dsimp only at z
        cases hb : Nat.beq j 104 with
        | true =>
          have hb := Nat.eq_of_beq_eq_true hb
          subst hb
          exact ⟨11, by decide, (fun z => by cases z), s_Walk_findQuarrel z⟩
        | false =>
          rw [hb] at z
          dsimp only at z
          cases z)
      (fun p e R s m args below meth c Q n0 F hret => ?_)
    rw [m1] at F hret ⊢
    rw [mc_S_quarrel] at F hret
    exact cuts_s (K := 400) (M := 131) (D := D_S_quarrel N) (B := fun _ _ _ _ _ => none) F hret (chkT_ok chk_S_quarrel) (hM_S_quarrel N) (fun _ _ _ _ _ z => by cases z) (hD_S_quarrel N) N 0 _ _ _ hf
  · cases hf
def T_S_without : List (List (Option RW)) := [
  [some (.iload_n 1, 1, [1], 0, 0), some (.iload_n 2, 1, [2], 0, 0), some (.invokestatic 280, 3, [2, 154, 2, 0], 0, 0), none, none, some (.ifCond .eq 11, 3, [16], 0, 0), none, none, some (.aload_n 0, 1, [0], 0, 0), some (.iload_n 3, 1, [3], 0, 0), some (.invokevirtual 198, 3, [0, 157, 2, 0], 0, 0), none, none, some (.ifCond .ne 9, 3, [22], 0, 0), none, none, some (.aload_n 0, 1, [0], 0, 0), some (.iconst 1, 1, [], 1, 0), some (.invokevirtual 128, 3, [0, 146, 2, 0], 0, 0), none, none, some (.ireturn, 1, [], 0, 0), some (.aload_n 0, 1, [0], 0, 0), some (.getfield 81, 3, [11, 11, 3, 0, 2], 0, 0), none, none, some (.getfield 189, 3, [2, 0, 0], 0, 0), none, none, some (.ifCond .ne 10, 3, [39], 0, 0), none, none],
  [some (.aload_n 0, 1, [0], 0, 0), some (.bipush 6, 2, [], 6, 0), none, some (.invokevirtual 128, 3, [0, 146, 2, 0], 0, 0), none, none, some (.ireturn, 1, [], 0, 0), some (.aload_n 0, 1, [0], 0, 0), some (.getfield 46, 3, [11, 5, 2, 0, 0, 32], 0, 0), none, none, some (.aload_n 0, 1, [0], 0, 0), some (.getfield 81, 3, [11, 11, 3, 0, 2], 0, 0), none, none, some (.aload_n 0, 1, [0], 0, 0), some (.getfield 25, 3, [11, 2, 2, 0, 3, 15], 0, 0), none, none, some (.iload_n 1, 1, [1], 0, 0), some (.iload_n 2, 1, [2], 0, 0), some (.invokevirtual 299, 3, [1, 1, 5, 3], 0, 0), none, none, some (.aload_n 0, 1, [0], 0, 0), some (.getfield 46, 3, [11, 5, 2, 0, 0, 32], 0, 0), none, none, some (.getfield 303, 3, [0, 2, 0], 0, 0), none, none, some (.iconst 1, 1, [], 1, 0)],
  [some (.iload_n 3, 1, [3], 0, 0), some (.ishl, 1, [], 0, 0), some (.iconst (-1), 1, [], (-1), 0), some (.ixor, 1, [], 0, 0), some (.iand, 1, [], 0, 0), some (.istore 4, 2, [4], 0, 0), none, some (.aload_n 0, 1, [0], 0, 0), some (.aload_n 0, 1, [0], 0, 0), some (.getfield 53, 3, [11, 6, 2, 0, 10, 41], 0, 0), none, none, some (.aload_n 0, 1, [0], 0, 0), some (.getfield 46, 3, [11, 5, 2, 0, 0, 32], 0, 0), none, none, some (.iload 4, 2, [4], 0, 0), none, some (.aload_n 0, 1, [0], 0, 0), some (.getfield 95, 3, [11, 15, 0], 0, 0), none, none, some (.invokevirtual 306, 3, [1, 93, 4, 0], 0, 0), none, none, some (.ifCond .eq 7, 3, [96], 0, 0), none, none, some (.iconst 1, 1, [], 1, 0), some (.goto 4, 3, [97], 0, 0), none, none],
  [some (.iconst 0, 1, [], 0, 0), some (.invokevirtual 183, 3, [0, 144, 2, 0], 0, 0), none, none, some (.ireturn, 1, [], 0, 0)]]
def f_S_without (N : Nat) (a1 : Int32) (a2 : Int32) (a3 : Int32) (h : MH) : Option (Int32 × MH) :=
  (f_S_areYears N a1 a2 h).bind (fun x1 =>
  if x1.1 = 0 then
  ((f_S_refuse N 1 x1.2).bind (fun x2 =>
  some (x2.1, x2.2)))
  else
  ((f_S_isMark N a3 x1.2).bind (fun x3 =>
  if x3.1 = 0 then
  ((f_S_refuse N 1 x3.2).bind (fun x4 =>
  some (x4.1, x4.2)))
  else
  (if (gI x3.2 (gR x3.2 1 11) 0) = 0 then
  ((f_S_refuse N 6 x3.2).bind (fun x5 =>
  some (x5.1, x5.2)))
  else
  ((f_Asked_prepare N (gR x3.2 1 11) a1 a2 x3.2).bind (fun x6 =>
  let v7 : Int32 := (gI x6 33 2) &&& (((1 : Int32) <<< (a3 &&& 31)) ^^^ ((-1)))
  (f_Walk_finds N v7 (gI x6 1 15) x6).bind (fun x8 =>
  if x8.1 = 0 then
  ((f_S_answer N 0 x8.2).bind (fun x9 =>
  some (x9.1, x9.2)))
  else
  ((f_S_answer N 1 x8.2).bind (fun x10 =>
  some (x10.1, x10.2))))))))))
def C_S_without (N : Nat) : MC := (KDL, false, (fun _ => 0), jsB, (fun j => match Nat.beq j 93 with
    | true => w_Walk_finds (f_Walk_finds N)
    | false => match Nat.beq j 144 with
    | true => w_S_answer (f_S_answer N)
    | false => match Nat.beq j 146 with
    | true => w_S_refuse (f_S_refuse N)
    | false => match Nat.beq j 154 with
    | true => w_S_areYears (f_S_areYears N)
    | false => match Nat.beq j 157 with
    | true => w_S_isMark (f_S_isMark N)
    | false => fun _ _ => none), (fun _ _ _ => none), (fun _ _ _ => none), (fun j => match Nat.beq j 1 with
    | true => w_Asked_prepare (f_Asked_prepare N)
    | false => fun _ _ => none))
def D_S_without (N : Nat) (n pc : Nat) (lv : ML) (st : List MV) (h : MH) : Option (Int32 × MH) :=
  match Nat.beq pc 0 with
  | true => (match lk lv 0, lk lv 1, lk lv 2, lk lv 3, st with
    | some (.inr (.inr (0, 11, 1))), some (.inl a1), some (.inl a2), some (.inl a3), [] => f_S_without N a1 a2 a3 h
    | _, _, _, _, _ => none)
  | false => none
set_option maxRecDepth 1000000 in
theorem E_S_without_0 (N : Nat) (n : Nat) (a1 : Int32) (a2 : Int32) (a3 : Int32) (h : MH) : seg (C_S_without N) 5 0 rI T_S_without [0] (fun q lv st h => match Nat.ble 1 q with
    | true => D_S_without N n q lv st h
    | false => none) 400 true 0 [(0, .inr (.inr (0, 11, 1))), (1, .inl a1), (2, .inl a2), (3, .inl a3)] [] h = f_S_without N a1 a2 a3 h := (rfl)
set_option maxRecDepth 1000000 in
theorem chk_S_without : chkT 11 false prog_1_method_27_code T_S_without = true := by decide +kernel
theorem mc_S_without : mC 134 = prog_1_method_27_code := by rfl
theorem mx_S_without : mL 134 = 5 ∧ mR 134 = some .int ∧ mK 134 = 1 ∧ (mN 134).cls = cN 11 := by decide +kernel
theorem hD_S_without (N : Nat) {r : Int32 × MH} : ∀ n pc lv st h, D_S_without N n pc lv st h = some r → ∃ lv', (∀ q ∈ lv', q ∈ lv) ∧ seg (C_S_without N) 5 0 rI T_S_without [0] (fun q lv st h => match Nat.ble (pc + 1) q with
    | true => D_S_without N n q lv st h
    | false => none) 400 true pc lv' st h = some r := by
  intro n pc lv st h hf
  unfold D_S_without at hf
  split at hf
  · rename_i hb
    have hb := Nat.eq_of_beq_eq_true hb
    subst hb
    split at hf
    · rename_i y0 y1 y2 e0 e1 e2 e3
      exact ⟨_, (sub_cons e0 (sub_cons e1 (sub_cons e2 (sub_cons e3 sub_nil)))), (E_S_without_0 N n _ _ _ h).trans hf⟩
    · cases hf
  · skip
    cases hf
theorem hM_S_without (N : Nat) {r : Int32 × MH} : ∀ n pc lv st h, D_S_without N n pc lv st h = some r → pc < 101 := by
  intro n pc lv st h hf
  unfold D_S_without at hf
  split at hf
  · rename_i hb
    rw [Nat.eq_of_beq_eq_true hb]
    decide
  · skip
    cases hf
theorem s_S_without {l : Launch} {E : EV} {N : Nat} {as : List MV} {h : MH} {r : Int32 × MH} (hf : w_S_without (f_S_without N) as h = some r) : SndM l E false 13 134 as h (some (.inl r.1)) r.2 := by
  unfold w_S_without at hf
  split at hf
  · obtain ⟨m1, m2, m3, m4⟩ := mx_S_without
    refine snd_of (C := C_S_without N) (own := 11) (rz := 0) (lim := 115) rI_eq m2 m4 pl_134 (TB_in _ cw_134 rfl) ⟨(fun _ => ⟨_, _, _, _, _, _, rfl, rfl, by rw [m4]; rfl⟩), (fun z => by rw [m3] at z; cases z)⟩ (fun z => by cases z) KDL_take rfl rfl (fun z => by cases z) (fun z => by cases z) (fun _ => rfl) (by rw [m1]; exact Nat.le_of_ble_eq_true rfl)
      (fun j as h x z => by
      dsimp only [C_S_without] at z
      cases hb : Nat.beq j 93 with
      | true =>
        have hb := Nat.eq_of_beq_eq_true hb
        subst hb
        exact ⟨12, by decide, (fun z => by cases z), s_Walk_finds z⟩
      | false =>
        rw [hb] at z
        dsimp only at z
        cases hb : Nat.beq j 144 with
        | true =>
          have hb := Nat.eq_of_beq_eq_true hb
          subst hb
          exact ⟨0, by decide, (fun z => by cases z), s_S_answer z⟩
        | false =>
          rw [hb] at z
          dsimp only at z
          cases hb : Nat.beq j 146 with
          | true =>
            have hb := Nat.eq_of_beq_eq_true hb
            subst hb
            exact ⟨0, by decide, (fun z => by cases z), s_S_refuse z⟩
          | false =>
            rw [hb] at z
            dsimp only at z
            cases hb : Nat.beq j 154 with
            | true =>
              have hb := Nat.eq_of_beq_eq_true hb
              subst hb
              exact ⟨2, by decide, (fun z => by cases z), s_S_areYears z⟩
            | false =>
              rw [hb] at z
              dsimp only at z
              cases hb : Nat.beq j 157 with
              | true =>
                have hb := Nat.eq_of_beq_eq_true hb
                subst hb
                exact ⟨1, by decide, (fun z => by cases z), s_S_isMark z⟩
              | false =>
                rw [hb] at z
                dsimp only at z
                cases z)
      (fun _ _ _ _ z => by cases z)
      (fun _ _ _ _ z => by cases z)
      (fun j as h x z => by
      dsimp only [C_S_without] at z
      cases hb : Nat.beq j 1 with
      | true =>
        have hb := Nat.eq_of_beq_eq_true hb
        subst hb
        exact ⟨2, by decide, (fun z => by cases z), s_Asked_prepare z⟩
      | false =>
        rw [hb] at z
        dsimp only at z
        cases z)
      (fun p e R s m args below meth c Q n0 F hret => ?_)
    rw [m1] at F hret ⊢
    rw [mc_S_without] at F hret
    exact cuts_s (K := 400) (M := 101) (D := D_S_without N) (B := fun _ _ _ _ _ => none) F hret (chkT_ok chk_S_without) (hM_S_without N) (fun _ _ _ _ _ z => by cases z) (hD_S_without N) N 0 _ _ _ hf
  · cases hf
def T_S_isSetOfMarks : List (List (Option RW)) := [
  [some (.iload_n 1, 1, [1], 0, 0), some (.iconst 1, 1, [], 1, 0), some (.aload_n 0, 1, [0], 0, 0), some (.getfield 81, 3, [11, 11, 3, 0, 2], 0, 0), none, none, some (.getfield 192, 3, [2, 1, 0], 0, 0), none, none, some (.ishl, 1, [], 0, 0), some (.invokestatic 186, 3, [2, 151, 2, 0], 0, 0), none, none, some (.ireturn, 1, [], 0, 0)]]
def f_S_isSetOfMarks (N : Nat) (a1 : Int32) (h : MH) : Option (Int32 × MH) :=
  (f_S_isOneOf N a1 ((1 : Int32) <<< ((gI h (gR h 1 11) 1) &&& 31)) h).bind (fun x1 =>
  match narOK 1 x1.1 with
  | true => some (x1.1, x1.2)
  | false => none)
def C_S_isSetOfMarks (N : Nat) : MC := (KDL, false, (fun _ => 0), jsB, (fun j => match Nat.beq j 151 with
    | true => w_S_isOneOf (f_S_isOneOf N)
    | false => fun _ _ => none), (fun _ _ _ => none), (fun _ _ _ => none), (fun _ _ _ => none))
def D_S_isSetOfMarks (N : Nat) (n pc : Nat) (lv : ML) (st : List MV) (h : MH) : Option (Int32 × MH) :=
  match Nat.beq pc 0 with
  | true => (match lk lv 0, lk lv 1, st with
    | some (.inr (.inr (0, 11, 1))), some (.inl a1), [] => f_S_isSetOfMarks N a1 h
    | _, _, _ => none)
  | false => none
set_option maxRecDepth 1000000 in
theorem E_S_isSetOfMarks_0 (N : Nat) (n : Nat) (a1 : Int32) (h : MH) : seg (C_S_isSetOfMarks N) 2 1 rI T_S_isSetOfMarks [0] (fun q lv st h => match Nat.ble 1 q with
    | true => D_S_isSetOfMarks N n q lv st h
    | false => none) 400 true 0 [(0, .inr (.inr (0, 11, 1))), (1, .inl a1)] [] h = f_S_isSetOfMarks N a1 h := (rfl)
set_option maxRecDepth 1000000 in
theorem chk_S_isSetOfMarks : chkT 11 false prog_1_method_52_code T_S_isSetOfMarks = true := by decide +kernel
theorem mc_S_isSetOfMarks : mC 159 = prog_1_method_52_code := by rfl
theorem mx_S_isSetOfMarks : mL 159 = 2 ∧ mR 159 = some .boolean ∧ mK 159 = 1 ∧ (mN 159).cls = cN 11 := by decide +kernel
theorem hD_S_isSetOfMarks (N : Nat) {r : Int32 × MH} : ∀ n pc lv st h, D_S_isSetOfMarks N n pc lv st h = some r → ∃ lv', (∀ q ∈ lv', q ∈ lv) ∧ seg (C_S_isSetOfMarks N) 2 1 rI T_S_isSetOfMarks [0] (fun q lv st h => match Nat.ble (pc + 1) q with
    | true => D_S_isSetOfMarks N n q lv st h
    | false => none) 400 true pc lv' st h = some r := by
  intro n pc lv st h hf
  unfold D_S_isSetOfMarks at hf
  split at hf
  · rename_i hb
    have hb := Nat.eq_of_beq_eq_true hb
    subst hb
    split at hf
    · rename_i y0 e0 e1
      exact ⟨_, (sub_cons e0 (sub_cons e1 sub_nil)), (E_S_isSetOfMarks_0 N n _ h).trans hf⟩
    · cases hf
  · skip
    cases hf
theorem hM_S_isSetOfMarks (N : Nat) {r : Int32 × MH} : ∀ n pc lv st h, D_S_isSetOfMarks N n pc lv st h = some r → pc < 14 := by
  intro n pc lv st h hf
  unfold D_S_isSetOfMarks at hf
  split at hf
  · rename_i hb
    rw [Nat.eq_of_beq_eq_true hb]
    decide
  · skip
    cases hf
theorem s_S_isSetOfMarks {l : Launch} {E : EV} {N : Nat} {as : List MV} {h : MH} {r : Int32 × MH} (hf : w_S_isSetOfMarks (f_S_isSetOfMarks N) as h = some r) : SndM l E false 1 159 as h (some (.inl r.1)) r.2 := by
  unfold w_S_isSetOfMarks at hf
  split at hf
  · obtain ⟨m1, m2, m3, m4⟩ := mx_S_isSetOfMarks
    refine snd_of (C := C_S_isSetOfMarks N) (own := 11) (rz := 1) (lim := 115) rI_eq m2 m4 pl_159 (TB_in _ cw_159 rfl) ⟨(fun _ => ⟨_, _, _, _, _, _, rfl, rfl, by rw [m4]; rfl⟩), (fun z => by rw [m3] at z; cases z)⟩ (fun z => by cases z) KDL_take rfl rfl (fun z => by cases z) (fun z => by cases z) (fun _ => rfl) (by rw [m1]; exact Nat.le_of_ble_eq_true rfl)
      (fun j as h x z => by
      dsimp only [C_S_isSetOfMarks] at z
      cases hb : Nat.beq j 151 with
      | true =>
        have hb := Nat.eq_of_beq_eq_true hb
        subst hb
        exact ⟨0, by decide, (fun z => by cases z), s_S_isOneOf z⟩
      | false =>
        rw [hb] at z
        dsimp only at z
        cases z)
      (fun _ _ _ _ z => by cases z)
      (fun _ _ _ _ z => by cases z)
      (fun _ _ _ _ z => by cases z)
      (fun p e R s m args below meth c Q n0 F hret => ?_)
    rw [m1] at F hret ⊢
    rw [mc_S_isSetOfMarks] at F hret
    exact cuts_s (K := 400) (M := 14) (D := D_S_isSetOfMarks N) (B := fun _ _ _ _ _ => none) F hret (chkT_ok chk_S_isSetOfMarks) (hM_S_isSetOfMarks N) (fun _ _ _ _ _ z => by cases z) (hD_S_isSetOfMarks N) N 0 _ _ _ hf
  · cases hf
def T_S_rank : List (List (Option RW)) := [
  [some (.aload_n 0, 1, [0], 0, 0), some (.iload_n 1, 1, [1], 0, 0), some (.invokevirtual 326, 3, [0, 159, 2, 0], 0, 0), none, none, some (.ifCond .eq 11, 3, [16], 0, 0), none, none, some (.iload_n 2, 1, [2], 0, 0), some (.iconst 2, 1, [], 2, 0), some (.invokestatic 186, 3, [2, 151, 2, 0], 0, 0), none, none, some (.ifCond .ne 9, 3, [22], 0, 0), none, none, some (.aload_n 0, 1, [0], 0, 0), some (.iconst 1, 1, [], 1, 0), some (.invokevirtual 128, 3, [0, 146, 2, 0], 0, 0), none, none, some (.ireturn, 1, [], 0, 0), some (.aload_n 0, 1, [0], 0, 0), some (.getfield 60, 3, [11, 7, 2, 0, 6, 47], 0, 0), none, none, some (.aload_n 0, 1, [0], 0, 0), some (.getfield 81, 3, [11, 11, 3, 0, 2], 0, 0), none, none, some (.iload_n 1, 1, [1], 0, 0), some (.iconst (-1), 1, [], (-1), 0)],
  [some (.invokevirtual 329, 3, [1, 46, 4, 0], 0, 0), none, none, some (.istore_n 3, 1, [3], 0, 0), some (.aload_n 0, 1, [0], 0, 0), some (.iload_n 2, 1, [2], 0, 0), some (.ifCond .ne 7, 3, [45], 0, 0), none, none, some (.iload_n 3, 1, [3], 0, 0), some (.goto 12, 3, [54], 0, 0), none, none, some (.aload_n 0, 1, [0], 0, 0), some (.getfield 81, 3, [11, 11, 3, 0, 2], 0, 0), none, none, some (.getfield 189, 3, [2, 0, 0], 0, 0), none, none, some (.iload_n 3, 1, [3], 0, 0), some (.isub, 1, [], 0, 0), some (.invokevirtual 183, 3, [0, 144, 2, 0], 0, 0), none, none, some (.ireturn, 1, [], 0, 0)]]
def f_S_rank (N : Nat) (a1 : Int32) (a2 : Int32) (h : MH) : Option (Int32 × MH) :=
  (f_S_isSetOfMarks N a1 h).bind (fun x1 =>
  if x1.1 = 0 then
  ((f_S_refuse N 1 x1.2).bind (fun x2 =>
  some (x2.1, x2.2)))
  else
  ((f_S_isOneOf N a2 2 x1.2).bind (fun x3 =>
  if x3.1 = 0 then
  ((f_S_refuse N 1 x3.2).bind (fun x4 =>
  some (x4.1, x4.2)))
  else
  ((f_Ranks_of N (gR x3.2 1 11) a1 ((-1)) x3.2).bind (fun x5 =>
  if a2 = 0 then
  ((f_S_answer N x5.1 x5.2).bind (fun x6 =>
  some (x6.1, x6.2)))
  else
  ((f_S_answer N ((gI x5.2 (gR x5.2 1 11) 0) - x5.1) x5.2).bind (fun x7 =>
  some (x7.1, x7.2))))))))
def C_S_rank (N : Nat) : MC := (KDL, false, (fun _ => 0), jsB, (fun j => match Nat.beq j 46 with
    | true => w_Ranks_of (f_Ranks_of N)
    | false => match Nat.beq j 144 with
    | true => w_S_answer (f_S_answer N)
    | false => match Nat.beq j 146 with
    | true => w_S_refuse (f_S_refuse N)
    | false => match Nat.beq j 151 with
    | true => w_S_isOneOf (f_S_isOneOf N)
    | false => match Nat.beq j 159 with
    | true => w_S_isSetOfMarks (f_S_isSetOfMarks N)
    | false => fun _ _ => none), (fun _ _ _ => none), (fun _ _ _ => none), (fun _ _ _ => none))
def D_S_rank (N : Nat) (n pc : Nat) (lv : ML) (st : List MV) (h : MH) : Option (Int32 × MH) :=
  match Nat.beq pc 0 with
  | true => (match lk lv 0, lk lv 1, lk lv 2, st with
    | some (.inr (.inr (0, 11, 1))), some (.inl a1), some (.inl a2), [] => f_S_rank N a1 a2 h
    | _, _, _, _ => none)
  | false => none
set_option maxRecDepth 1000000 in
theorem E_S_rank_0 (N : Nat) (n : Nat) (a1 : Int32) (a2 : Int32) (h : MH) : seg (C_S_rank N) 4 0 rI T_S_rank [0] (fun q lv st h => match Nat.ble 1 q with
    | true => D_S_rank N n q lv st h
    | false => none) 400 true 0 [(0, .inr (.inr (0, 11, 1))), (1, .inl a1), (2, .inl a2)] [] h = f_S_rank N a1 a2 h := (rfl)
set_option maxRecDepth 1000000 in
theorem chk_S_rank : chkT 11 false prog_1_method_28_code T_S_rank = true := by decide +kernel
theorem mc_S_rank : mC 135 = prog_1_method_28_code := by rfl
theorem mx_S_rank : mL 135 = 4 ∧ mR 135 = some .int ∧ mK 135 = 1 ∧ (mN 135).cls = cN 11 := by decide +kernel
theorem hD_S_rank (N : Nat) {r : Int32 × MH} : ∀ n pc lv st h, D_S_rank N n pc lv st h = some r → ∃ lv', (∀ q ∈ lv', q ∈ lv) ∧ seg (C_S_rank N) 4 0 rI T_S_rank [0] (fun q lv st h => match Nat.ble (pc + 1) q with
    | true => D_S_rank N n q lv st h
    | false => none) 400 true pc lv' st h = some r := by
  intro n pc lv st h hf
  unfold D_S_rank at hf
  split at hf
  · rename_i hb
    have hb := Nat.eq_of_beq_eq_true hb
    subst hb
    split at hf
    · rename_i y0 y1 e0 e1 e2
      exact ⟨_, (sub_cons e0 (sub_cons e1 (sub_cons e2 sub_nil))), (E_S_rank_0 N n _ _ h).trans hf⟩
    · cases hf
  · skip
    cases hf
theorem hM_S_rank (N : Nat) {r : Int32 × MH} : ∀ n pc lv st h, D_S_rank N n pc lv st h = some r → pc < 58 := by
  intro n pc lv st h hf
  unfold D_S_rank at hf
  split at hf
  · rename_i hb
    rw [Nat.eq_of_beq_eq_true hb]
    decide
  · skip
    cases hf
theorem s_S_rank {l : Launch} {E : EV} {N : Nat} {as : List MV} {h : MH} {r : Int32 × MH} (hf : w_S_rank (f_S_rank N) as h = some r) : SndM l E false 3 135 as h (some (.inl r.1)) r.2 := by
  unfold w_S_rank at hf
  split at hf
  · obtain ⟨m1, m2, m3, m4⟩ := mx_S_rank
    refine snd_of (C := C_S_rank N) (own := 11) (rz := 0) (lim := 115) rI_eq m2 m4 pl_135 (TB_in _ cw_135 rfl) ⟨(fun _ => ⟨_, _, _, _, _, _, rfl, rfl, by rw [m4]; rfl⟩), (fun z => by rw [m3] at z; cases z)⟩ (fun z => by cases z) KDL_take rfl rfl (fun z => by cases z) (fun z => by cases z) (fun _ => rfl) (by rw [m1]; exact Nat.le_of_ble_eq_true rfl)
      (fun j as h x z => by
      dsimp only [C_S_rank] at z
      cases hb : Nat.beq j 46 with
      | true =>
        have hb := Nat.eq_of_beq_eq_true hb
        subst hb
        exact ⟨2, by decide, (fun z => by cases z), s_Ranks_of z⟩
      | false =>
        rw [hb] at z
        dsimp only at z
        cases hb : Nat.beq j 144 with
        | true =>
          have hb := Nat.eq_of_beq_eq_true hb
          subst hb
          exact ⟨0, by decide, (fun z => by cases z), s_S_answer z⟩
        | false =>
          rw [hb] at z
          dsimp only at z
          cases hb : Nat.beq j 146 with
          | true =>
            have hb := Nat.eq_of_beq_eq_true hb
            subst hb
            exact ⟨0, by decide, (fun z => by cases z), s_S_refuse z⟩
          | false =>
            rw [hb] at z
            dsimp only at z
            cases hb : Nat.beq j 151 with
            | true =>
              have hb := Nat.eq_of_beq_eq_true hb
              subst hb
              exact ⟨0, by decide, (fun z => by cases z), s_S_isOneOf z⟩
            | false =>
              rw [hb] at z
              dsimp only at z
              cases hb : Nat.beq j 159 with
              | true =>
                have hb := Nat.eq_of_beq_eq_true hb
                subst hb
                exact ⟨1, by decide, (fun z => by cases z), s_S_isSetOfMarks z⟩
              | false =>
                rw [hb] at z
                dsimp only at z
                cases z)
      (fun _ _ _ _ z => by cases z)
      (fun _ _ _ _ z => by cases z)
      (fun _ _ _ _ z => by cases z)
      (fun p e R s m args below meth c Q n0 F hret => ?_)
    rw [m1] at F hret ⊢
    rw [mc_S_rank] at F hret
    exact cuts_s (K := 400) (M := 58) (D := D_S_rank N) (B := fun _ _ _ _ _ => none) F hret (chkT_ok chk_S_rank) (hM_S_rank N) (fun _ _ _ _ _ z => by cases z) (hD_S_rank N) N 0 _ _ _ hf
  · cases hf
def T_S_apart : List (List (Option RW)) := [
  [some (.aload_n 0, 1, [0], 0, 0), some (.iload_n 1, 1, [1], 0, 0), some (.invokevirtual 195, 3, [0, 156, 2, 0], 0, 0), none, none, some (.ifCond .eq 11, 3, [16], 0, 0), none, none, some (.aload_n 0, 1, [0], 0, 0), some (.iload_n 2, 1, [2], 0, 0), some (.invokevirtual 326, 3, [0, 159, 2, 0], 0, 0), none, none, some (.ifCond .ne 9, 3, [22], 0, 0), none, none, some (.aload_n 0, 1, [0], 0, 0), some (.iconst 1, 1, [], 1, 0), some (.invokevirtual 128, 3, [0, 146, 2, 0], 0, 0), none, none, some (.ireturn, 1, [], 0, 0), some (.aload_n 0, 1, [0], 0, 0), some (.getfield 60, 3, [11, 7, 2, 0, 6, 47], 0, 0), none, none, some (.aload_n 0, 1, [0], 0, 0), some (.getfield 81, 3, [11, 11, 3, 0, 2], 0, 0), none, none, some (.iload_n 2, 1, [2], 0, 0), some (.iconst (-1), 1, [], (-1), 0)],
  [some (.invokevirtual 329, 3, [1, 46, 4, 0], 0, 0), none, none, some (.istore_n 3, 1, [3], 0, 0), some (.aload_n 0, 1, [0], 0, 0), some (.aload_n 0, 1, [0], 0, 0), some (.getfield 60, 3, [11, 7, 2, 0, 6, 47], 0, 0), none, none, some (.aload_n 0, 1, [0], 0, 0), some (.getfield 81, 3, [11, 11, 3, 0, 2], 0, 0), none, none, some (.iload_n 2, 1, [2], 0, 0), some (.iload_n 1, 1, [1], 0, 0), some (.invokevirtual 329, 3, [1, 46, 4, 0], 0, 0), none, none, some (.iload_n 3, 1, [3], 0, 0), some (.iconst 1, 1, [], 1, 0), some (.isub, 1, [], 0, 0), some (.if_icmp .ne 7, 3, [60], 0, 0), none, none, some (.iconst 1, 1, [], 1, 0), some (.goto 4, 3, [61], 0, 0), none, none, some (.iconst 0, 1, [], 0, 0), some (.invokevirtual 183, 3, [0, 144, 2, 0], 0, 0), none, none],
  [some (.ireturn, 1, [], 0, 0)]]
def f_S_apart (N : Nat) (a1 : Int32) (a2 : Int32) (h : MH) : Option (Int32 × MH) :=
  (f_S_isCell N a1 h).bind (fun x1 =>
  if x1.1 = 0 then
  ((f_S_refuse N 1 x1.2).bind (fun x2 =>
  some (x2.1, x2.2)))
  else
  ((f_S_isSetOfMarks N a2 x1.2).bind (fun x3 =>
  if x3.1 = 0 then
  ((f_S_refuse N 1 x3.2).bind (fun x4 =>
  some (x4.1, x4.2)))
  else
  ((f_Ranks_of N (gR x3.2 1 11) a2 ((-1)) x3.2).bind (fun x5 =>
  (f_Ranks_of N (gR x5.2 1 11) a2 a1 x5.2).bind (fun x6 =>
  if x6.1 = (x5.1 - 1) then
  ((f_S_answer N 1 x6.2).bind (fun x7 =>
  some (x7.1, x7.2)))
  else
  ((f_S_answer N 0 x6.2).bind (fun x8 =>
  some (x8.1, x8.2)))))))))
def C_S_apart (N : Nat) : MC := (KDL, false, (fun _ => 0), jsB, (fun j => match Nat.beq j 46 with
    | true => w_Ranks_of (f_Ranks_of N)
    | false => match Nat.beq j 144 with
    | true => w_S_answer (f_S_answer N)
    | false => match Nat.beq j 146 with
    | true => w_S_refuse (f_S_refuse N)
    | false => match Nat.beq j 156 with
    | true => w_S_isCell (f_S_isCell N)
    | false => match Nat.beq j 159 with
    | true => w_S_isSetOfMarks (f_S_isSetOfMarks N)
    | false => fun _ _ => none), (fun _ _ _ => none), (fun _ _ _ => none), (fun _ _ _ => none))
def D_S_apart (N : Nat) (n pc : Nat) (lv : ML) (st : List MV) (h : MH) : Option (Int32 × MH) :=
  match Nat.beq pc 0 with
  | true => (match lk lv 0, lk lv 1, lk lv 2, st with
    | some (.inr (.inr (0, 11, 1))), some (.inl a1), some (.inl a2), [] => f_S_apart N a1 a2 h
    | _, _, _, _ => none)
  | false => none
set_option maxRecDepth 1000000 in
theorem E_S_apart_0 (N : Nat) (n : Nat) (a1 : Int32) (a2 : Int32) (h : MH) : seg (C_S_apart N) 4 0 rI T_S_apart [0] (fun q lv st h => match Nat.ble 1 q with
    | true => D_S_apart N n q lv st h
    | false => none) 400 true 0 [(0, .inr (.inr (0, 11, 1))), (1, .inl a1), (2, .inl a2)] [] h = f_S_apart N a1 a2 h := (rfl)
set_option maxRecDepth 1000000 in
theorem chk_S_apart : chkT 11 false prog_1_method_29_code T_S_apart = true := by decide +kernel
theorem mc_S_apart : mC 136 = prog_1_method_29_code := by rfl
theorem mx_S_apart : mL 136 = 4 ∧ mR 136 = some .int ∧ mK 136 = 1 ∧ (mN 136).cls = cN 11 := by decide +kernel
theorem hD_S_apart (N : Nat) {r : Int32 × MH} : ∀ n pc lv st h, D_S_apart N n pc lv st h = some r → ∃ lv', (∀ q ∈ lv', q ∈ lv) ∧ seg (C_S_apart N) 4 0 rI T_S_apart [0] (fun q lv st h => match Nat.ble (pc + 1) q with
    | true => D_S_apart N n q lv st h
    | false => none) 400 true pc lv' st h = some r := by
  intro n pc lv st h hf
  unfold D_S_apart at hf
  split at hf
  · rename_i hb
    have hb := Nat.eq_of_beq_eq_true hb
    subst hb
    split at hf
    · rename_i y0 y1 e0 e1 e2
      exact ⟨_, (sub_cons e0 (sub_cons e1 (sub_cons e2 sub_nil))), (E_S_apart_0 N n _ _ h).trans hf⟩
    · cases hf
  · skip
    cases hf
theorem hM_S_apart (N : Nat) {r : Int32 × MH} : ∀ n pc lv st h, D_S_apart N n pc lv st h = some r → pc < 65 := by
  intro n pc lv st h hf
  unfold D_S_apart at hf
  split at hf
  · rename_i hb
    rw [Nat.eq_of_beq_eq_true hb]
    decide
  · skip
    cases hf
theorem s_S_apart {l : Launch} {E : EV} {N : Nat} {as : List MV} {h : MH} {r : Int32 × MH} (hf : w_S_apart (f_S_apart N) as h = some r) : SndM l E false 3 136 as h (some (.inl r.1)) r.2 := by
  unfold w_S_apart at hf
  split at hf
  · obtain ⟨m1, m2, m3, m4⟩ := mx_S_apart
    refine snd_of (C := C_S_apart N) (own := 11) (rz := 0) (lim := 115) rI_eq m2 m4 pl_136 (TB_in _ cw_136 rfl) ⟨(fun _ => ⟨_, _, _, _, _, _, rfl, rfl, by rw [m4]; rfl⟩), (fun z => by rw [m3] at z; cases z)⟩ (fun z => by cases z) KDL_take rfl rfl (fun z => by cases z) (fun z => by cases z) (fun _ => rfl) (by rw [m1]; exact Nat.le_of_ble_eq_true rfl)
      (fun j as h x z => by
      dsimp only [C_S_apart] at z
      cases hb : Nat.beq j 46 with
      | true =>
        have hb := Nat.eq_of_beq_eq_true hb
        subst hb
        exact ⟨2, by decide, (fun z => by cases z), s_Ranks_of z⟩
      | false =>
        rw [hb] at z
        dsimp only at z
        cases hb : Nat.beq j 144 with
        | true =>
          have hb := Nat.eq_of_beq_eq_true hb
          subst hb
          exact ⟨0, by decide, (fun z => by cases z), s_S_answer z⟩
        | false =>
          rw [hb] at z
          dsimp only at z
          cases hb : Nat.beq j 146 with
          | true =>
            have hb := Nat.eq_of_beq_eq_true hb
            subst hb
            exact ⟨0, by decide, (fun z => by cases z), s_S_refuse z⟩
          | false =>
            rw [hb] at z
            dsimp only at z
            cases hb : Nat.beq j 156 with
            | true =>
              have hb := Nat.eq_of_beq_eq_true hb
              subst hb
              exact ⟨1, by decide, (fun z => by cases z), s_S_isCell z⟩
            | false =>
              rw [hb] at z
              dsimp only at z
              cases hb : Nat.beq j 159 with
              | true =>
                have hb := Nat.eq_of_beq_eq_true hb
                subst hb
                exact ⟨1, by decide, (fun z => by cases z), s_S_isSetOfMarks z⟩
              | false =>
                rw [hb] at z
                dsimp only at z
                cases z)
      (fun _ _ _ _ z => by cases z)
      (fun _ _ _ _ z => by cases z)
      (fun _ _ _ _ z => by cases z)
      (fun p e R s m args below meth c Q n0 F hret => ?_)
    rw [m1] at F hret ⊢
    rw [mc_S_apart] at F hret
    exact cuts_s (K := 400) (M := 65) (D := D_S_apart N) (B := fun _ _ _ _ _ => none) F hret (chkT_ok chk_S_apart) (hM_S_apart N) (fun _ _ _ _ _ z => by cases z) (hD_S_apart N) N 0 _ _ _ hf
  · cases hf
def T_S_odds : List (List (Option RW)) := [
  [some (.iload_n 1, 1, [1], 0, 0), some (.iload_n 2, 1, [2], 0, 0), some (.invokestatic 280, 3, [2, 154, 2, 0], 0, 0), none, none, some (.ifCond .eq 22, 3, [27], 0, 0), none, none, some (.aload_n 0, 1, [0], 0, 0), some (.iload_n 3, 1, [3], 0, 0), some (.invokevirtual 290, 3, [0, 158, 2, 0], 0, 0), none, none, some (.ifCond .eq 14, 3, [27], 0, 0), none, none, some (.iload 4, 2, [4], 0, 0), none, some (.iconst 0, 1, [], 0, 0), some (.bipush 54, 2, [], 54, 0), none, some (.invokestatic 207, 3, [2, 150, 3, 0], 0, 0), none, none, some (.ifCond .ne 9, 3, [33], 0, 0), none, none, some (.aload_n 0, 1, [0], 0, 0), some (.iconst 1, 1, [], 1, 0), some (.invokevirtual 128, 3, [0, 146, 2, 0], 0, 0), none, none],
  [some (.ireturn, 1, [], 0, 0), some (.aload_n 0, 1, [0], 0, 0), some (.iload_n 1, 1, [1], 0, 0), some (.iload_n 2, 1, [2], 0, 0), some (.iload_n 3, 1, [3], 0, 0), some (.iload 4, 2, [4], 0, 0), none, some (.invokevirtual 283, 3, [0, 161, 5, 3], 0, 0), none, none, some (.aload_n 0, 1, [0], 0, 0), some (.getfield 53, 3, [11, 6, 2, 0, 10, 41], 0, 0), none, none, some (.getfield 287, 3, [10, 4, 0], 0, 0), none, none, some (.ifCond .ne 10, 3, [59], 0, 0), none, none, some (.aload_n 0, 1, [0], 0, 0), some (.bipush 6, 2, [], 6, 0), none, some (.invokevirtual 128, 3, [0, 146, 2, 0], 0, 0), none, none, some (.ireturn, 1, [], 0, 0), some (.aload_n 0, 1, [0], 0, 0), some (.aload_n 0, 1, [0], 0, 0), some (.getfield 53, 3, [11, 6, 2, 0, 10, 41], 0, 0), none, none],
  [some (.getfield 333, 3, [10, 5, 0], 0, 0), none, none, some (.i2l, 1, [], 0, 0), some (.aload_n 0, 1, [0], 0, 0), some (.getfield 53, 3, [11, 6, 2, 0, 10, 41], 0, 0), none, none, some (.getfield 287, 3, [10, 4, 0], 0, 0), none, none, some (.i2l, 1, [], 0, 0), some (.invokevirtual 262, 3, [0, 148, 3, 0], 0, 0), none, none, some (.ireturn, 1, [], 0, 0)]]
def f_S_odds (N : Nat) (a1 : Int32) (a2 : Int32) (a3 : Int32) (a4 : Int32) (h : MH) : Option (Int32 × MH) :=
  (f_S_areYears N a1 a2 h).bind (fun x1 =>
  if x1.1 = 0 then
  ((f_S_refuse N 1 x1.2).bind (fun x2 =>
  some (x2.1, x2.2)))
  else
  ((f_S_isSetOfCells N a3 x1.2).bind (fun x3 =>
  if x3.1 = 0 then
  ((f_S_refuse N 1 x3.2).bind (fun x4 =>
  some (x4.1, x4.2)))
  else
  ((f_S_isWithin N a4 0 54 x3.2).bind (fun x5 =>
  if x5.1 = 0 then
  ((f_S_refuse N 1 x5.2).bind (fun x6 =>
  some (x6.1, x6.2)))
  else
  ((f_S_walkAll N a1 a2 a3 a4 x5.2).bind (fun x7 =>
  if (gI x7 42 4) = 0 then
  ((f_S_refuse N 6 x7).bind (fun x8 =>
  some (x8.1, x8.2)))
  else
  ((f_S_tell N (((gI x7 42 5)).toInt64) (((gI x7 42 4)).toInt64) x7).bind (fun x9 =>
  some (x9.1, x9.2))))))))))
def C_S_odds (N : Nat) : MC := (KDL, false, (fun _ => 0), jsB, (fun j => match Nat.beq j 146 with
    | true => w_S_refuse (f_S_refuse N)
    | false => match Nat.beq j 148 with
    | true => w_S_tell (f_S_tell N)
    | false => match Nat.beq j 150 with
    | true => w_S_isWithin (f_S_isWithin N)
    | false => match Nat.beq j 154 with
    | true => w_S_areYears (f_S_areYears N)
    | false => match Nat.beq j 158 with
    | true => w_S_isSetOfCells (f_S_isSetOfCells N)
    | false => fun _ _ => none), (fun _ _ _ => none), (fun _ _ _ => none), (fun j => match Nat.beq j 161 with
    | true => w_S_walkAll (f_S_walkAll N)
    | false => fun _ _ => none))
def D_S_odds (N : Nat) (n pc : Nat) (lv : ML) (st : List MV) (h : MH) : Option (Int32 × MH) :=
  match Nat.beq pc 0 with
  | true => (match lk lv 0, lk lv 1, lk lv 2, lk lv 3, lk lv 4, st with
    | some (.inr (.inr (0, 11, 1))), some (.inl a1), some (.inl a2), some (.inl a3), some (.inl a4), [] => f_S_odds N a1 a2 a3 a4 h
    | _, _, _, _, _, _ => none)
  | false => none
set_option maxRecDepth 1000000 in
theorem E_S_odds_0 (N : Nat) (n : Nat) (a1 : Int32) (a2 : Int32) (a3 : Int32) (a4 : Int32) (h : MH) : seg (C_S_odds N) 5 0 rI T_S_odds [0] (fun q lv st h => match Nat.ble 1 q with
    | true => D_S_odds N n q lv st h
    | false => none) 400 true 0 [(0, .inr (.inr (0, 11, 1))), (1, .inl a1), (2, .inl a2), (3, .inl a3), (4, .inl a4)] [] h = f_S_odds N a1 a2 a3 a4 h := (rfl)
set_option maxRecDepth 1000000 in
theorem chk_S_odds : chkT 11 false prog_1_method_30_code T_S_odds = true := by decide +kernel
theorem mc_S_odds : mC 137 = prog_1_method_30_code := by rfl
theorem mx_S_odds : mL 137 = 5 ∧ mR 137 = some .int ∧ mK 137 = 1 ∧ (mN 137).cls = cN 11 := by decide +kernel
theorem hD_S_odds (N : Nat) {r : Int32 × MH} : ∀ n pc lv st h, D_S_odds N n pc lv st h = some r → ∃ lv', (∀ q ∈ lv', q ∈ lv) ∧ seg (C_S_odds N) 5 0 rI T_S_odds [0] (fun q lv st h => match Nat.ble (pc + 1) q with
    | true => D_S_odds N n q lv st h
    | false => none) 400 true pc lv' st h = some r := by
  intro n pc lv st h hf
  unfold D_S_odds at hf
  split at hf
  · rename_i hb
    have hb := Nat.eq_of_beq_eq_true hb
    subst hb
    split at hf
    · rename_i y0 y1 y2 y3 e0 e1 e2 e3 e4
      exact ⟨_, (sub_cons e0 (sub_cons e1 (sub_cons e2 (sub_cons e3 (sub_cons e4 sub_nil))))), (E_S_odds_0 N n _ _ _ _ h).trans hf⟩
    · cases hf
  · skip
    cases hf
theorem hM_S_odds (N : Nat) {r : Int32 × MH} : ∀ n pc lv st h, D_S_odds N n pc lv st h = some r → pc < 80 := by
  intro n pc lv st h hf
  unfold D_S_odds at hf
  split at hf
  · rename_i hb
    rw [Nat.eq_of_beq_eq_true hb]
    decide
  · skip
    cases hf
theorem s_S_odds {l : Launch} {E : EV} {N : Nat} {as : List MV} {h : MH} {r : Int32 × MH} (hf : w_S_odds (f_S_odds N) as h = some r) : SndM l E false 14 137 as h (some (.inl r.1)) r.2 := by
  unfold w_S_odds at hf
  split at hf
  · obtain ⟨m1, m2, m3, m4⟩ := mx_S_odds
    refine snd_of (C := C_S_odds N) (own := 11) (rz := 0) (lim := 115) rI_eq m2 m4 pl_137 (TB_in _ cw_137 rfl) ⟨(fun _ => ⟨_, _, _, _, _, _, rfl, rfl, by rw [m4]; rfl⟩), (fun z => by rw [m3] at z; cases z)⟩ (fun z => by cases z) KDL_take rfl rfl (fun z => by cases z) (fun z => by cases z) (fun _ => rfl) (by rw [m1]; exact Nat.le_of_ble_eq_true rfl)
      (fun j as h x z => by
      dsimp only [C_S_odds] at z
      cases hb : Nat.beq j 146 with
      | true =>
        have hb := Nat.eq_of_beq_eq_true hb
        subst hb
        exact ⟨0, by decide, (fun z => by cases z), s_S_refuse z⟩
      | false =>
        rw [hb] at z
        dsimp only at z
        cases hb : Nat.beq j 148 with
        | true =>
          have hb := Nat.eq_of_beq_eq_true hb
          subst hb
          exact ⟨1, by decide, (fun z => by cases z), s_S_tell z⟩
        | false =>
          rw [hb] at z
          dsimp only at z
          cases hb : Nat.beq j 150 with
          | true =>
            have hb := Nat.eq_of_beq_eq_true hb
            subst hb
            exact ⟨0, by decide, (fun z => by cases z), s_S_isWithin z⟩
          | false =>
            rw [hb] at z
            dsimp only at z
            cases hb : Nat.beq j 154 with
            | true =>
              have hb := Nat.eq_of_beq_eq_true hb
              subst hb
              exact ⟨2, by decide, (fun z => by cases z), s_S_areYears z⟩
            | false =>
              rw [hb] at z
              dsimp only at z
              cases hb : Nat.beq j 158 with
              | true =>
                have hb := Nat.eq_of_beq_eq_true hb
                subst hb
                exact ⟨1, by decide, (fun z => by cases z), s_S_isSetOfCells z⟩
              | false =>
                rw [hb] at z
                dsimp only at z
                cases z)
      (fun _ _ _ _ z => by cases z)
      (fun _ _ _ _ z => by cases z)
      (fun j as h x z => by
      dsimp only [C_S_odds] at z
      cases hb : Nat.beq j 161 with
      | true =>
        have hb := Nat.eq_of_beq_eq_true hb
        subst hb
        exact ⟨13, by decide, (fun z => by cases z), s_S_walkAll z⟩
      | false =>
        rw [hb] at z
        dsimp only at z
        cases z)
      (fun p e R s m args below meth c Q n0 F hret => ?_)
    rw [m1] at F hret ⊢
    rw [mc_S_odds] at F hret
    exact cuts_s (K := 400) (M := 80) (D := D_S_odds N) (B := fun _ _ _ _ _ => none) F hret (chkT_ok chk_S_odds) (hM_S_odds N) (fun _ _ _ _ _ z => by cases z) (hD_S_odds N) N 0 _ _ _ hf
  · cases hf
