def T_Names_clear : List (List (Option RW)) := [
  [some (.aload_n 0, 1, [0], 0, 0), some (.iconst 0, 1, [], 0, 0), some (.putfield 24, 3, [5, 4, 0], 0, 0), none, none, some (.return_, 1, [], 0, 0)]]
def f_Names_clear (N : Nat) (h : MH) : Option (MH) :=
  let h1 : MH := sI h 11 4 0
  some h1
def C_Names_clear (N : Nat) : MC := (KDL, false, (fun _ => 0), jsB, (fun _ _ _ => none), (fun _ _ _ => none), (fun _ _ _ => none), (fun _ _ _ => none))
def D_Names_clear (N : Nat) (n pc : Nat) (lv : ML) (st : List MV) (h : MH) : Option (MH) :=
  match Nat.beq pc 0 with
  | true => (match lk lv 0, st with
    | some (.inr (.inr (0, 5, 11))), [] => f_Names_clear N h
    | _, _ => none)
  | false => none
set_option maxRecDepth 1000000 in
theorem E_Names_clear_0 (N : Nat) (n : Nat) (h : MH) : seg (C_Names_clear N) 1 0 rV T_Names_clear [0] (fun q lv st h => match Nat.ble 1 q with
    | true => D_Names_clear N n q lv st h
    | false => none) 400 true 0 [(0, .inr (.inr (0, 5, 11)))] [] h = f_Names_clear N h := (rfl)
set_option maxRecDepth 1000000 in
theorem chk_Names_clear : chkT 5 false prog_7_method_2_code T_Names_clear = true := by decide +kernel
theorem mc_Names_clear : mC 41 = prog_7_method_2_code := by rfl
theorem mx_Names_clear : mL 41 = 1 ∧ mR 41 = none ∧ mK 41 = 1 ∧ (mN 41).cls = cN 5 := by decide +kernel
theorem hD_Names_clear (N : Nat) {r : MH} : ∀ n pc lv st h, D_Names_clear N n pc lv st h = some r → ∃ lv', (∀ q ∈ lv', q ∈ lv) ∧ seg (C_Names_clear N) 1 0 rV T_Names_clear [0] (fun q lv st h => match Nat.ble (pc + 1) q with
    | true => D_Names_clear N n q lv st h
    | false => none) 400 true pc lv' st h = some r := by
  intro n pc lv st h hf
  unfold D_Names_clear at hf
  split at hf
  · rename_i hb
    have hb := Nat.eq_of_beq_eq_true hb
    subst hb
    split at hf
    · rename_i e0
      exact ⟨_, (sub_cons e0 sub_nil), (E_Names_clear_0 N n h).trans hf⟩
    · cases hf
  · skip
    cases hf
theorem hM_Names_clear (N : Nat) {r : MH} : ∀ n pc lv st h, D_Names_clear N n pc lv st h = some r → pc < 6 := by
  intro n pc lv st h hf
  unfold D_Names_clear at hf
  split at hf
  · rename_i hb
    rw [Nat.eq_of_beq_eq_true hb]
    decide
  · skip
    cases hf
theorem s_Names_clear {l : Launch} {E : EV} {N : Nat} {as : List MV} {h : MH} {r : MH} (hf : w_Names_clear (f_Names_clear N) as h = some r) : SndM l E false 0 41 as h none r := by
  unfold w_Names_clear at hf
  split at hf
  · obtain ⟨m1, m2, m3, m4⟩ := mx_Names_clear
    refine snd_of (C := C_Names_clear N) (own := 5) (rz := 0) (lim := 115) rV_eq m2 m4 pl_41 (TB_in _ cw_41 rfl) ⟨(fun _ => ⟨_, _, _, _, _, _, rfl, rfl, by rw [m4]; rfl⟩), (fun z => by rw [m3] at z; cases z)⟩ (fun z => by cases z) KDL_take rfl rfl (fun z => by cases z) (fun z => by cases z) (fun _ => rfl) (by rw [m1]; exact Nat.le_of_ble_eq_true rfl)
      (fun _ _ _ _ z => by cases z)
      (fun _ _ _ _ z => by cases z)
      (fun _ _ _ _ z => by cases z)
      (fun _ _ _ _ z => by cases z)
      (fun p e R s m args below meth c Q n0 F hret => ?_)
    rw [m1] at F hret ⊢
    rw [mc_Names_clear] at F hret
    exact cuts_s (K := 400) (M := 6) (D := D_Names_clear N) (B := fun _ _ _ _ _ => none) F hret (chkT_ok chk_Names_clear) (hM_Names_clear N) (fun _ _ _ _ _ z => by cases z) (hD_Names_clear N) N 0 _ _ _ hf
  · cases hf
def T_Names_add : List (List (Option RW)) := [
  [some (.aload_n 0, 1, [0], 0, 0), some (.getfield 24, 3, [5, 4, 0], 0, 0), none, none, some (.bipush 14, 2, [], 14, 0), none, some (.if_icmp .ge 54, 3, [60], 0, 0), none, none, some (.aload_n 0, 1, [0], 0, 0), some (.getfield 11, 3, [5, 0, 2, 1, 14, 1], 0, 0), none, none, some (.aload_n 0, 1, [0], 0, 0), some (.getfield 24, 3, [5, 4, 0], 0, 0), none, none, some (.iload_n 1, 1, [1], 0, 0), some (.iastore, 1, [], 0, 0), some (.aload_n 0, 1, [0], 0, 0), some (.getfield 15, 3, [5, 1, 2, 1, 14, 2], 0, 0), none, none, some (.aload_n 0, 1, [0], 0, 0), some (.getfield 24, 3, [5, 4, 0], 0, 0), none, none, some (.iload_n 2, 1, [2], 0, 0), some (.iastore, 1, [], 0, 0), some (.aload_n 0, 1, [0], 0, 0), some (.getfield 18, 3, [5, 2, 2, 1, 14, 3], 0, 0), none],
  [none, some (.aload_n 0, 1, [0], 0, 0), some (.getfield 24, 3, [5, 4, 0], 0, 0), none, none, some (.iload_n 3, 1, [3], 0, 0), some (.iastore, 1, [], 0, 0), some (.aload_n 0, 1, [0], 0, 0), some (.getfield 21, 3, [5, 3, 2, 1, 14, 4], 0, 0), none, none, some (.aload_n 0, 1, [0], 0, 0), some (.getfield 24, 3, [5, 4, 0], 0, 0), none, none, some (.iload 4, 2, [4], 0, 0), none, some (.iastore, 1, [], 0, 0), some (.aload_n 0, 1, [0], 0, 0), some (.dup, 1, [], 0, 0), some (.getfield 24, 3, [5, 4, 0], 0, 0), none, none, some (.iconst 1, 1, [], 1, 0), some (.iadd, 1, [], 0, 0), some (.putfield 24, 3, [5, 4, 0], 0, 0), none, none, some (.return_, 1, [], 0, 0)]]
def f_Names_add (N : Nat) (a1 : Int32) (a2 : Int32) (a3 : Int32) (a4 : Int32) (h : MH) : Option (MH) :=
  if 14 ≤ (gI h 11 4) then
  (some h)
  else
  (if inB (gI h 11 4) 14 = true then
  (let h1 : MH := sI h 12 (iN (gI h 11 4)) a1
  if inB (gI h1 11 4) 14 = true then
  (let h2 : MH := sI h1 13 (iN (gI h1 11 4)) a2
  if inB (gI h2 11 4) 14 = true then
  (let h3 : MH := sI h2 14 (iN (gI h2 11 4)) a3
  if inB (gI h3 11 4) 14 = true then
  (let h4 : MH := sI h3 15 (iN (gI h3 11 4)) a4
  let h5 : MH := sI h4 11 4 ((gI h4 11 4) + 1)
  some h5)
  else none)
  else none)
  else none)
  else none)
def C_Names_add (N : Nat) : MC := (KDL, false, (fun _ => 0), jsB, (fun _ _ _ => none), (fun _ _ _ => none), (fun _ _ _ => none), (fun _ _ _ => none))
def D_Names_add (N : Nat) (n pc : Nat) (lv : ML) (st : List MV) (h : MH) : Option (MH) :=
  match Nat.beq pc 0 with
  | true => (match lk lv 0, lk lv 1, lk lv 2, lk lv 3, lk lv 4, st with
    | some (.inr (.inr (0, 5, 11))), some (.inl a1), some (.inl a2), some (.inl a3), some (.inl a4), [] => f_Names_add N a1 a2 a3 a4 h
    | _, _, _, _, _, _ => none)
  | false => none
set_option maxRecDepth 1000000 in
theorem E_Names_add_0 (N : Nat) (n : Nat) (a1 : Int32) (a2 : Int32) (a3 : Int32) (a4 : Int32) (h : MH) : seg (C_Names_add N) 5 0 rV T_Names_add [0] (fun q lv st h => match Nat.ble 1 q with
    | true => D_Names_add N n q lv st h
    | false => none) 400 true 0 [(0, .inr (.inr (0, 5, 11))), (1, .inl a1), (2, .inl a2), (3, .inl a3), (4, .inl a4)] [] h = f_Names_add N a1 a2 a3 a4 h := (rfl)
set_option maxRecDepth 1000000 in
theorem chk_Names_add : chkT 5 false prog_7_method_3_code T_Names_add = true := by decide +kernel
theorem mc_Names_add : mC 42 = prog_7_method_3_code := by rfl
theorem mx_Names_add : mL 42 = 5 ∧ mR 42 = none ∧ mK 42 = 1 ∧ (mN 42).cls = cN 5 := by decide +kernel
theorem hD_Names_add (N : Nat) {r : MH} : ∀ n pc lv st h, D_Names_add N n pc lv st h = some r → ∃ lv', (∀ q ∈ lv', q ∈ lv) ∧ seg (C_Names_add N) 5 0 rV T_Names_add [0] (fun q lv st h => match Nat.ble (pc + 1) q with
    | true => D_Names_add N n q lv st h
    | false => none) 400 true pc lv' st h = some r := by
  intro n pc lv st h hf
  unfold D_Names_add at hf
  split at hf
  · rename_i hb
    have hb := Nat.eq_of_beq_eq_true hb
    subst hb
    split at hf
    · rename_i y0 y1 y2 y3 e0 e1 e2 e3 e4
      exact ⟨_, (sub_cons e0 (sub_cons e1 (sub_cons e2 (sub_cons e3 (sub_cons e4 sub_nil))))), (E_Names_add_0 N n _ _ _ _ h).trans hf⟩
    · cases hf
  · skip
    cases hf
theorem hM_Names_add (N : Nat) {r : MH} : ∀ n pc lv st h, D_Names_add N n pc lv st h = some r → pc < 61 := by
  intro n pc lv st h hf
  unfold D_Names_add at hf
  split at hf
  · rename_i hb
    rw [Nat.eq_of_beq_eq_true hb]
    decide
  · skip
    cases hf
theorem s_Names_add {l : Launch} {E : EV} {N : Nat} {as : List MV} {h : MH} {r : MH} (hf : w_Names_add (f_Names_add N) as h = some r) : SndM l E false 0 42 as h none r := by
  unfold w_Names_add at hf
  split at hf
  · obtain ⟨m1, m2, m3, m4⟩ := mx_Names_add
    refine snd_of (C := C_Names_add N) (own := 5) (rz := 0) (lim := 115) rV_eq m2 m4 pl_42 (TB_in _ cw_42 rfl) ⟨(fun _ => ⟨_, _, _, _, _, _, rfl, rfl, by rw [m4]; rfl⟩), (fun z => by rw [m3] at z; cases z)⟩ (fun z => by cases z) KDL_take rfl rfl (fun z => by cases z) (fun z => by cases z) (fun _ => rfl) (by rw [m1]; exact Nat.le_of_ble_eq_true rfl)
      (fun _ _ _ _ z => by cases z)
      (fun _ _ _ _ z => by cases z)
      (fun _ _ _ _ z => by cases z)
      (fun _ _ _ _ z => by cases z)
      (fun p e R s m args below meth c Q n0 F hret => ?_)
    rw [m1] at F hret ⊢
    rw [mc_Names_add] at F hret
    exact cuts_s (K := 400) (M := 61) (D := D_Names_add N) (B := fun _ _ _ _ _ => none) F hret (chkT_ok chk_Names_add) (hM_Names_add N) (fun _ _ _ _ _ z => by cases z) (hD_Names_add N) N 0 _ _ _ hf
  · cases hf
def T_Names_areAlike : List (List (Option RW)) := [
  [some (.iconst 0, 1, [], 0, 0), some (.istore 4, 2, [4], 0, 0), none, some (.iload 4, 2, [4], 0, 0), none, some (.iload_n 3, 1, [3], 0, 0), some (.if_icmp .ge 26, 3, [32], 0, 0), none, none, some (.aload_n 0, 1, [0], 0, 0), some (.iload_n 1, 1, [1], 0, 0), some (.iload 4, 2, [4], 0, 0), none, some (.iadd, 1, [], 0, 0), some (.baload, 1, [], 0, 0), some (.aload_n 0, 1, [0], 0, 0), some (.iload_n 2, 1, [2], 0, 0), some (.iload 4, 2, [4], 0, 0), none, some (.iadd, 1, [], 0, 0), some (.baload, 1, [], 0, 0), some (.if_icmp .eq 5, 3, [26], 0, 0), none, none, some (.iconst 0, 1, [], 0, 0), some (.ireturn, 1, [], 0, 0), some (.iinc 4 1, 3, [4], 1, 0), none, none, some (.goto (-26), 3, [3], 0, 0), none, none],
  [some (.iconst 1, 1, [], 1, 0), some (.ireturn, 1, [], 0, 0)]]
def F_Names_areAlike_3 (N : Nat) (bk : (Int32 → Int32 → Int32 → Int32 → MH → Option (Int32 × MH))) (a1 : Int32) (a2 : Int32) (a3 : Int32) (a4 : Int32) (h : MH) : Option (Int32 × MH) :=
  if a3 ≤ a4 then
  (some (1, h))
  else
  (if inB (a1 + a4) 600 = true then
  (if inB (a2 + a4) 600 = true then
  (if (gI h 4 (iN (a1 + a4))) = (gI h 4 (iN (a2 + a4))) then
  (let v1 : Int32 := a4 + 1
  bk a1 a2 a3 v1 h)
  else
  (some (0, h)))
  else none)
  else none)
def F_Names_areAlike_0 (N : Nat) (bk : (Int32 → Int32 → Int32 → Int32 → MH → Option (Int32 × MH))) (a1 : Int32) (a2 : Int32) (a3 : Int32) (h : MH) : Option (Int32 × MH) :=
  F_Names_areAlike_3 N bk a1 a2 a3 0 h
def L_Names_areAlike (N : Nat) : Nat → (Int32 → Int32 → Int32 → Int32 → MH → Option (Int32 × MH))
  | 0 => fun _ _ _ _ _ => none
  | n + 1 => F_Names_areAlike_3 N (L_Names_areAlike N n)
def f_Names_areAlike (N : Nat) (a1 : Int32) (a2 : Int32) (a3 : Int32) (h : MH) : Option (Int32 × MH) := F_Names_areAlike_0 N (L_Names_areAlike N N) a1 a2 a3 h
def C_Names_areAlike (N : Nat) : MC := (KDL, false, (fun _ => 0), jsB, (fun _ _ _ => none), (fun _ _ _ => none), (fun _ _ _ => none), (fun _ _ _ => none))
def D_Names_areAlike (N : Nat) (n pc : Nat) (lv : ML) (st : List MV) (h : MH) : Option (Int32 × MH) :=
  match Nat.beq pc 0 with
  | true => (match lk lv 0, lk lv 1, lk lv 2, lk lv 3, st with
    | some (.inr (.inr (3, 600, 4))), some (.inl a1), some (.inl a2), some (.inl a3), [] => F_Names_areAlike_0 N (L_Names_areAlike N n) a1 a2 a3 h
    | _, _, _, _, _ => none)
  | false => match Nat.beq pc 3 with
  | true => (match lk lv 0, lk lv 1, lk lv 2, lk lv 3, lk lv 4, st with
    | some (.inr (.inr (3, 600, 4))), some (.inl a1), some (.inl a2), some (.inl a3), some (.inl a4), [] => F_Names_areAlike_3 N (L_Names_areAlike N n) a1 a2 a3 a4 h
    | _, _, _, _, _, _ => none)
  | false => none
def B_Names_areAlike (N : Nat) (n pc : Nat) (lv : ML) (st : List MV) (h : MH) : Option (Int32 × MH) :=
  match Nat.beq pc 3 with
  | true => (match lk lv 0, lk lv 1, lk lv 2, lk lv 3, lk lv 4, st with
    | some (.inr (.inr (3, 600, 4))), some (.inl a1), some (.inl a2), some (.inl a3), some (.inl a4), [] => ((L_Names_areAlike N n)) a1 a2 a3 a4 h
    | _, _, _, _, _, _ => none)
  | false => none
set_option maxRecDepth 1000000 in
theorem E_Names_areAlike_0 (N : Nat) (n : Nat) (a1 : Int32) (a2 : Int32) (a3 : Int32) (h : MH) : seg (C_Names_areAlike N) 5 1 rI T_Names_areAlike [0, 3] (fun q lv st h => match Nat.ble 1 q with
    | true => D_Names_areAlike N n q lv st h
    | false => B_Names_areAlike N n q lv st h) 400 true 0 [(0, .inr (.inr (3, 600, 4))), (1, .inl a1), (2, .inl a2), (3, .inl a3)] [] h = F_Names_areAlike_0 N (L_Names_areAlike N n) a1 a2 a3 h := (rfl)
set_option maxRecDepth 1000000 in
theorem E_Names_areAlike_3 (N : Nat) (n : Nat) (a1 : Int32) (a2 : Int32) (a3 : Int32) (a4 : Int32) (h : MH) : seg (C_Names_areAlike N) 5 1 rI T_Names_areAlike [0, 3] (fun q lv st h => match Nat.ble 4 q with
    | true => D_Names_areAlike N n q lv st h
    | false => B_Names_areAlike N n q lv st h) 400 true 3 [(0, .inr (.inr (3, 600, 4))), (1, .inl a1), (2, .inl a2), (3, .inl a3), (4, .inl a4)] [] h = F_Names_areAlike_3 N (L_Names_areAlike N n) a1 a2 a3 a4 h := (rfl)
set_option maxRecDepth 1000000 in
theorem chk_Names_areAlike : chkT 5 false prog_7_method_5_code T_Names_areAlike = true := by decide +kernel
theorem mc_Names_areAlike : mC 44 = prog_7_method_5_code := by rfl
theorem mx_Names_areAlike : mL 44 = 5 ∧ mR 44 = some .boolean ∧ mK 44 = 0 ∧ (mN 44).cls = cN 5 := by decide +kernel
theorem hD_Names_areAlike (N : Nat) {r : Int32 × MH} : ∀ n pc lv st h, D_Names_areAlike N n pc lv st h = some r → ∃ lv', (∀ q ∈ lv', q ∈ lv) ∧ seg (C_Names_areAlike N) 5 1 rI T_Names_areAlike [0, 3] (fun q lv st h => match Nat.ble (pc + 1) q with
    | true => D_Names_areAlike N n q lv st h
    | false => B_Names_areAlike N n q lv st h) 400 true pc lv' st h = some r := by
  intro n pc lv st h hf
  unfold D_Names_areAlike at hf
  split at hf
  · rename_i hb
    have hb := Nat.eq_of_beq_eq_true hb
    subst hb
    split at hf
    · rename_i y0 y1 y2 e0 e1 e2 e3
      exact ⟨_, (sub_cons e0 (sub_cons e1 (sub_cons e2 (sub_cons e3 sub_nil)))), (E_Names_areAlike_0 N n _ _ _ h).trans hf⟩
    · cases hf
  · skip
    split at hf
    · rename_i hb
      have hb := Nat.eq_of_beq_eq_true hb
      subst hb
      split at hf
      · rename_i y0 y1 y2 y3 e0 e1 e2 e3 e4
        exact ⟨_, (sub_cons e0 (sub_cons e1 (sub_cons e2 (sub_cons e3 (sub_cons e4 sub_nil))))), (E_Names_areAlike_3 N n _ _ _ _ h).trans hf⟩
      · cases hf
    · skip
      cases hf
theorem hM_Names_areAlike (N : Nat) {r : Int32 × MH} : ∀ n pc lv st h, D_Names_areAlike N n pc lv st h = some r → pc < 34 := by
  intro n pc lv st h hf
  unfold D_Names_areAlike at hf
  split at hf
  · rename_i hb
    rw [Nat.eq_of_beq_eq_true hb]
    decide
  · skip
    split at hf
    · rename_i hb
      rw [Nat.eq_of_beq_eq_true hb]
      decide
    · skip
      cases hf
theorem hB_Names_areAlike (N : Nat) {r : Int32 × MH} : ∀ n pc lv st h, B_Names_areAlike N n pc lv st h = some r → ∃ k, n = k + 1 ∧ D_Names_areAlike N k pc lv st h = some r := by
  intro n pc lv st h hf
  unfold B_Names_areAlike at hf
  split at hf
  · rename_i hb
    have hb := Nat.eq_of_beq_eq_true hb
    subst hb
    cases n with
    | zero =>
      split at hf
      · cases hf
      · cases hf
    | succ k =>
      refine ⟨k, rfl, ?_⟩
      exact hf
  · skip
    cases hf
theorem s_Names_areAlike {l : Launch} {E : EV} {N : Nat} {as : List MV} {h : MH} {r : Int32 × MH} (hf : w_Names_areAlike (f_Names_areAlike N) as h = some r) : SndM l E false 0 44 as h (some (.inl r.1)) r.2 := by
  unfold w_Names_areAlike at hf
  split at hf
  · obtain ⟨m1, m2, m3, m4⟩ := mx_Names_areAlike
    refine snd_of (C := C_Names_areAlike N) (own := 5) (rz := 1) (lim := 115) rI_eq m2 m4 pl_44 (TB_in _ cw_44 rfl) ⟨(fun z => by rw [m3] at z; cases z), (fun z => by rw [m3] at z; cases z)⟩ (fun z => by cases z) KDL_take rfl rfl (fun z => by cases z) (fun z => by cases z) (fun _ => rfl) (by rw [m1]; exact Nat.le_of_ble_eq_true rfl)
      (fun _ _ _ _ z => by cases z)
      (fun _ _ _ _ z => by cases z)
      (fun _ _ _ _ z => by cases z)
      (fun _ _ _ _ z => by cases z)
      (fun p e R s m args below meth c Q n0 F hret => ?_)
    rw [m1] at F hret ⊢
    rw [mc_Names_areAlike] at F hret
    exact cuts_s (K := 400) (M := 34) (D := D_Names_areAlike N) (B := B_Names_areAlike N) F hret (chkT_ok chk_Names_areAlike) (hM_Names_areAlike N) (hB_Names_areAlike N) (hD_Names_areAlike N) N 0 _ _ _ hf
  · cases hf
def T_Names_find : List (List (Option RW)) := [
  [some (.iconst 0, 1, [], 0, 0), some (.istore 4, 2, [4], 0, 0), none, some (.iload 4, 2, [4], 0, 0), none, some (.aload_n 0, 1, [0], 0, 0), some (.getfield 24, 3, [5, 4, 0], 0, 0), none, none, some (.if_icmp .ge 51, 3, [60], 0, 0), none, none, some (.aload_n 0, 1, [0], 0, 0), some (.getfield 15, 3, [5, 1, 2, 1, 14, 2], 0, 0), none, none, some (.iload 4, 2, [4], 0, 0), none, some (.iaload, 1, [], 0, 0), some (.aload_n 0, 1, [0], 0, 0), some (.getfield 11, 3, [5, 0, 2, 1, 14, 1], 0, 0), none, none, some (.iload 4, 2, [4], 0, 0), none, some (.iaload, 1, [], 0, 0), some (.isub, 1, [], 0, 0), some (.iload_n 3, 1, [3], 0, 0), some (.iload_n 2, 1, [2], 0, 0), some (.isub, 1, [], 0, 0), some (.if_icmp .ne 24, 3, [54], 0, 0), none],
  [none, some (.aload_n 1, 1, [1], 0, 0), some (.aload_n 0, 1, [0], 0, 0), some (.getfield 11, 3, [5, 0, 2, 1, 14, 1], 0, 0), none, none, some (.iload 4, 2, [4], 0, 0), none, some (.iaload, 1, [], 0, 0), some (.iload_n 2, 1, [2], 0, 0), some (.iload_n 3, 1, [3], 0, 0), some (.iload_n 2, 1, [2], 0, 0), some (.isub, 1, [], 0, 0), some (.invokestatic 28, 3, [2, 44, 4, 0], 0, 0), none, none, some (.ifCond .eq 6, 3, [54], 0, 0), none, none, some (.iload 4, 2, [4], 0, 0), none, some (.ireturn, 1, [], 0, 0), some (.iinc 4 1, 3, [4], 1, 0), none, none, some (.goto (-54), 3, [3], 0, 0), none, none, some (.iconst (-1), 1, [], (-1), 0), some (.ireturn, 1, [], 0, 0)]]
def F_Names_find_3 (N : Nat) (bk : (Int32 → Int32 → Int32 → MH → Option (Int32 × MH))) (a2 : Int32) (a3 : Int32) (a4 : Int32) (h : MH) : Option (Int32 × MH) :=
  if (gI h 11 4) ≤ a4 then
  (some ((-1), h))
  else
  (if inB a4 14 = true then
  (if inB a4 14 = true then
  (if ((gI h 13 (iN a4)) - (gI h 12 (iN a4))) = (a3 - a2) then
  (if inB a4 14 = true then
  ((f_Names_areAlike N (gI h 12 (iN a4)) a2 (a3 - a2) h).bind (fun x1 =>
  if x1.1 = 0 then
  (let v2 : Int32 := a4 + 1
  bk a2 a3 v2 x1.2)
  else
  (some (a4, x1.2))))
  else none)
  else
  (let v3 : Int32 := a4 + 1
  bk a2 a3 v3 h))
  else none)
  else none)
def F_Names_find_0 (N : Nat) (bk : (Int32 → Int32 → Int32 → MH → Option (Int32 × MH))) (a2 : Int32) (a3 : Int32) (h : MH) : Option (Int32 × MH) :=
  F_Names_find_3 N bk a2 a3 0 h
def L_Names_find (N : Nat) : Nat → (Int32 → Int32 → Int32 → MH → Option (Int32 × MH))
  | 0 => fun _ _ _ _ => none
  | n + 1 => F_Names_find_3 N (L_Names_find N n)
def f_Names_find (N : Nat) (a2 : Int32) (a3 : Int32) (h : MH) : Option (Int32 × MH) := F_Names_find_0 N (L_Names_find N N) a2 a3 h
def C_Names_find (N : Nat) : MC := (KDL, false, (fun _ => 0), jsB, (fun j => match Nat.beq j 44 with
    | true => w_Names_areAlike (f_Names_areAlike N)
    | false => fun _ _ => none), (fun _ _ _ => none), (fun _ _ _ => none), (fun _ _ _ => none))
def D_Names_find (N : Nat) (n pc : Nat) (lv : ML) (st : List MV) (h : MH) : Option (Int32 × MH) :=
  match Nat.beq pc 0 with
  | true => (match lk lv 0, lk lv 1, lk lv 2, lk lv 3, st with
    | some (.inr (.inr (0, 5, 11))), some (.inr (.inr (3, 600, 4))), some (.inl a2), some (.inl a3), [] => F_Names_find_0 N (L_Names_find N n) a2 a3 h
    | _, _, _, _, _ => none)
  | false => match Nat.beq pc 3 with
  | true => (match lk lv 0, lk lv 1, lk lv 2, lk lv 3, lk lv 4, st with
    | some (.inr (.inr (0, 5, 11))), some (.inr (.inr (3, 600, 4))), some (.inl a2), some (.inl a3), some (.inl a4), [] => F_Names_find_3 N (L_Names_find N n) a2 a3 a4 h
    | _, _, _, _, _, _ => none)
  | false => none
def B_Names_find (N : Nat) (n pc : Nat) (lv : ML) (st : List MV) (h : MH) : Option (Int32 × MH) :=
  match Nat.beq pc 3 with
  | true => (match lk lv 0, lk lv 1, lk lv 2, lk lv 3, lk lv 4, st with
    | some (.inr (.inr (0, 5, 11))), some (.inr (.inr (3, 600, 4))), some (.inl a2), some (.inl a3), some (.inl a4), [] => ((L_Names_find N n)) a2 a3 a4 h
    | _, _, _, _, _, _ => none)
  | false => none
set_option maxRecDepth 1000000 in
theorem E_Names_find_0 (N : Nat) (n : Nat) (a2 : Int32) (a3 : Int32) (h : MH) : seg (C_Names_find N) 5 0 rI T_Names_find [0, 3] (fun q lv st h => match Nat.ble 1 q with
    | true => D_Names_find N n q lv st h
    | false => B_Names_find N n q lv st h) 400 true 0 [(0, .inr (.inr (0, 5, 11))), (1, .inr (.inr (3, 600, 4))), (2, .inl a2), (3, .inl a3)] [] h = F_Names_find_0 N (L_Names_find N n) a2 a3 h := (rfl)
set_option maxRecDepth 1000000 in
theorem E_Names_find_3 (N : Nat) (n : Nat) (a2 : Int32) (a3 : Int32) (a4 : Int32) (h : MH) : seg (C_Names_find N) 5 0 rI T_Names_find [0, 3] (fun q lv st h => match Nat.ble 4 q with
    | true => D_Names_find N n q lv st h
    | false => B_Names_find N n q lv st h) 400 true 3 [(0, .inr (.inr (0, 5, 11))), (1, .inr (.inr (3, 600, 4))), (2, .inl a2), (3, .inl a3), (4, .inl a4)] [] h = F_Names_find_3 N (L_Names_find N n) a2 a3 a4 h := (rfl)
set_option maxRecDepth 1000000 in
theorem chk_Names_find : chkT 5 false prog_7_method_4_code T_Names_find = true := by decide +kernel
theorem mc_Names_find : mC 43 = prog_7_method_4_code := by rfl
theorem mx_Names_find : mL 43 = 5 ∧ mR 43 = some .int ∧ mK 43 = 1 ∧ (mN 43).cls = cN 5 := by decide +kernel
theorem hD_Names_find (N : Nat) {r : Int32 × MH} : ∀ n pc lv st h, D_Names_find N n pc lv st h = some r → ∃ lv', (∀ q ∈ lv', q ∈ lv) ∧ seg (C_Names_find N) 5 0 rI T_Names_find [0, 3] (fun q lv st h => match Nat.ble (pc + 1) q with
    | true => D_Names_find N n q lv st h
    | false => B_Names_find N n q lv st h) 400 true pc lv' st h = some r := by
  intro n pc lv st h hf
  unfold D_Names_find at hf
  split at hf
  · rename_i hb
    have hb := Nat.eq_of_beq_eq_true hb
    subst hb
    split at hf
    · rename_i y0 y1 e0 e1 e2 e3
      exact ⟨_, (sub_cons e0 (sub_cons e1 (sub_cons e2 (sub_cons e3 sub_nil)))), (E_Names_find_0 N n _ _ h).trans hf⟩
    · cases hf
  · skip
    split at hf
    · rename_i hb
      have hb := Nat.eq_of_beq_eq_true hb
      subst hb
      split at hf
      · rename_i y0 y1 y2 e0 e1 e2 e3 e4
        exact ⟨_, (sub_cons e0 (sub_cons e1 (sub_cons e2 (sub_cons e3 (sub_cons e4 sub_nil))))), (E_Names_find_3 N n _ _ _ h).trans hf⟩
      · cases hf
    · skip
      cases hf
theorem hM_Names_find (N : Nat) {r : Int32 × MH} : ∀ n pc lv st h, D_Names_find N n pc lv st h = some r → pc < 62 := by
  intro n pc lv st h hf
  unfold D_Names_find at hf
  split at hf
  · rename_i hb
    rw [Nat.eq_of_beq_eq_true hb]
    decide
  · skip
    split at hf
    · rename_i hb
      rw [Nat.eq_of_beq_eq_true hb]
      decide
    · skip
      cases hf
theorem hB_Names_find (N : Nat) {r : Int32 × MH} : ∀ n pc lv st h, B_Names_find N n pc lv st h = some r → ∃ k, n = k + 1 ∧ D_Names_find N k pc lv st h = some r := by
  intro n pc lv st h hf
  unfold B_Names_find at hf
  split at hf
  · rename_i hb
    have hb := Nat.eq_of_beq_eq_true hb
    subst hb
    cases n with
    | zero =>
      split at hf
      · cases hf
      · cases hf
    | succ k =>
      refine ⟨k, rfl, ?_⟩
      exact hf
  · skip
    cases hf
theorem s_Names_find {l : Launch} {E : EV} {N : Nat} {as : List MV} {h : MH} {r : Int32 × MH} (hf : w_Names_find (f_Names_find N) as h = some r) : SndM l E false 1 43 as h (some (.inl r.1)) r.2 := by
  unfold w_Names_find at hf
  split at hf
  · obtain ⟨m1, m2, m3, m4⟩ := mx_Names_find
    refine snd_of (C := C_Names_find N) (own := 5) (rz := 0) (lim := 115) rI_eq m2 m4 pl_43 (TB_in _ cw_43 rfl) ⟨(fun _ => ⟨_, _, _, _, _, _, rfl, rfl, by rw [m4]; rfl⟩), (fun z => by rw [m3] at z; cases z)⟩ (fun z => by cases z) KDL_take rfl rfl (fun z => by cases z) (fun z => by cases z) (fun _ => rfl) (by rw [m1]; exact Nat.le_of_ble_eq_true rfl)
      (fun j as h x z => by
      dsimp only [C_Names_find] at z
      cases hb : Nat.beq j 44 with
      | true =>
        have hb := Nat.eq_of_beq_eq_true hb
        subst hb
        exact ⟨0, by decide, (fun z => by cases z), s_Names_areAlike z⟩
      | false =>
        rw [hb] at z
        dsimp only at z
        cases z)
      (fun _ _ _ _ z => by cases z)
      (fun _ _ _ _ z => by cases z)
      (fun _ _ _ _ z => by cases z)
      (fun p e R s m args below meth c Q n0 F hret => ?_)
    rw [m1] at F hret ⊢
    rw [mc_Names_find] at F hret
    exact cuts_s (K := 400) (M := 62) (D := D_Names_find N) (B := B_Names_find N) F hret (chkT_ok chk_Names_find) (hM_Names_find N) (hB_Names_find N) (hD_Names_find N) N 0 _ _ _ hf
  · cases hf
def T_Ranks_fill : List (List (Option RW)) := [
  [some (.iconst 0, 1, [], 0, 0), some (.istore 4, 2, [4], 0, 0), none, some (.iconst 0, 1, [], 0, 0), some (.istore 5, 2, [5], 0, 0), none, some (.iload 5, 2, [5], 0, 0), none, some (.bipush 8, 2, [], 8, 0), none, some (.if_icmp .ge 72, 3, [82], 0, 0), none, none, some (.iload_n 2, 1, [2], 0, 0), some (.iload 5, 2, [5], 0, 0), none, some (.ishr, 1, [], 0, 0), some (.iconst 1, 1, [], 1, 0), some (.iand, 1, [], 0, 0), some (.ifCond .ne 6, 3, [25], 0, 0), none, none, some (.goto 54, 3, [76], 0, 0), none, none, some (.iconst 0, 1, [], 0, 0), some (.istore 6, 2, [6], 0, 0), none, some (.iload 6, 2, [6], 0, 0), none, some (.bipush 6, 2, [], 6, 0), none],
  [some (.if_icmp .ge 41, 3, [73], 0, 0), none, none, some (.aload_n 0, 1, [0], 0, 0), some (.getfield 9, 3, [6, 0, 2, 2, 48, 1], 0, 0), none, none, some (.iload 4, 2, [4], 0, 0), none, some (.bipush 6, 2, [], 6, 0), none, some (.imul, 1, [], 0, 0), some (.iload 6, 2, [6], 0, 0), none, some (.iadd, 1, [], 0, 0), some (.iload 6, 2, [6], 0, 0), none, some (.iload_n 3, 1, [3], 0, 0), some (.if_icmp .ne 7, 3, [57], 0, 0), none, none, some (.lconst 0, 1, [], 0, 0), some (.goto 12, 3, [66], 0, 0), none, none, some (.aload_n 1, 1, [1], 0, 0), some (.iload 6, 2, [6], 0, 0), none, some (.iload 5, 2, [5], 0, 0), none, some (.invokevirtual 31, 3, [1, 15, 3, 0], 0, 0), none],
  [none, some (.i2l, 1, [], 0, 0), some (.lastore, 1, [], 0, 0), some (.iinc 6 1, 3, [6], 1, 0), none, none, some (.goto (-42), 3, [28], 0, 0), none, none, some (.iinc 4 1, 3, [4], 1, 0), none, none, some (.iinc 5 1, 3, [5], 1, 0), none, none, some (.goto (-73), 3, [6], 0, 0), none, none, some (.iload 4, 2, [4], 0, 0), none, some (.ireturn, 1, [], 0, 0)]]
def F_Ranks_fill_28 (N : Nat) (bk : (Nat → Int32 → Int32 → Int32 → Int32 → MH → Option (Int32 × MH)) × (Nat → Int32 → Int32 → Int32 → Int32 → Int32 → MH → Option (Int32 × MH))) (r1 : Nat) (a2 : Int32) (a3 : Int32) (a4 : Int32) (a5 : Int32) (a6 : Int32) (h : MH) : Option (Int32 × MH) :=
  if 6 ≤ a6 then
  (let v2 : Int32 := a4 + 1
  let v3 : Int32 := a5 + 1
  (bk.1) r1 a2 a3 v2 v3 h)
  else
  (if a6 = a3 then
  (if inB ((a4 * 6) + a6) 48 = true then
  (let h4 : MH := sJ h 49 (iN ((a4 * 6) + a6)) 0
  let v5 : Int32 := a6 + 1
  (bk.2) r1 a2 a3 a4 a5 v5 h4)
  else none)
  else
  ((f_Land_unit N r1 a6 a5 h).bind (fun x6 =>
  if inB ((a4 * 6) + a6) 48 = true then
  (let h7 : MH := sJ x6.2 49 (iN ((a4 * 6) + a6)) x6.1.toInt64
  let v8 : Int32 := a6 + 1
  (bk.2) r1 a2 a3 a4 a5 v8 h7)
  else none)))
def F_Ranks_fill_6 (N : Nat) (bk : (Nat → Int32 → Int32 → Int32 → Int32 → MH → Option (Int32 × MH)) × (Nat → Int32 → Int32 → Int32 → Int32 → Int32 → MH → Option (Int32 × MH))) (r1 : Nat) (a2 : Int32) (a3 : Int32) (a4 : Int32) (a5 : Int32) (h : MH) : Option (Int32 × MH) :=
  if 8 ≤ a5 then
  (some (a4, h))
  else
  (if ((a2 >>> (a5 &&& 31)) &&& 1) = 0 then
  (let v1 : Int32 := a5 + 1
  (bk.1) r1 a2 a3 a4 v1 h)
  else
  (F_Ranks_fill_28 N bk r1 a2 a3 a4 a5 0 h))
def F_Ranks_fill_0 (N : Nat) (bk : (Nat → Int32 → Int32 → Int32 → Int32 → MH → Option (Int32 × MH)) × (Nat → Int32 → Int32 → Int32 → Int32 → Int32 → MH → Option (Int32 × MH))) (r1 : Nat) (a2 : Int32) (a3 : Int32) (h : MH) : Option (Int32 × MH) :=
  F_Ranks_fill_6 N bk r1 a2 a3 0 0 h
def L_Ranks_fill (N : Nat) : Nat → ((Nat → Int32 → Int32 → Int32 → Int32 → MH → Option (Int32 × MH)) × (Nat → Int32 → Int32 → Int32 → Int32 → Int32 → MH → Option (Int32 × MH)))
  | 0 => (fun _ _ _ _ _ _ => none, fun _ _ _ _ _ _ _ => none)
  | n + 1 => (F_Ranks_fill_6 N (L_Ranks_fill N n), F_Ranks_fill_28 N (L_Ranks_fill N n))
def f_Ranks_fill (N : Nat) (r1 : Nat) (a2 : Int32) (a3 : Int32) (h : MH) : Option (Int32 × MH) := F_Ranks_fill_0 N (L_Ranks_fill N N) r1 a2 a3 h
def C_Ranks_fill (N : Nat) : MC := (KDL, false, (fun _ => 0), jsB, (fun j => match Nat.beq j 15 with
    | true => w_Land_unit (f_Land_unit N)
    | false => fun _ _ => none), (fun _ _ _ => none), (fun _ _ _ => none), (fun _ _ _ => none))
def D_Ranks_fill (N : Nat) (n pc : Nat) (lv : ML) (st : List MV) (h : MH) : Option (Int32 × MH) :=
  match Nat.beq pc 0 with
  | true => (match lk lv 0, lk lv 1, lk lv 2, lk lv 3, st with
    | some (.inr (.inr (0, 6, 48))), some (.inr (.inr (0, 2, r1))), some (.inl a2), some (.inl a3), [] => F_Ranks_fill_0 N (L_Ranks_fill N n) r1 a2 a3 h
    | _, _, _, _, _ => none)
  | false => match Nat.beq pc 6 with
  | true => (match lk lv 0, lk lv 1, lk lv 2, lk lv 3, lk lv 4, lk lv 5, st with
    | some (.inr (.inr (0, 6, 48))), some (.inr (.inr (0, 2, r1))), some (.inl a2), some (.inl a3), some (.inl a4), some (.inl a5), [] => F_Ranks_fill_6 N (L_Ranks_fill N n) r1 a2 a3 a4 a5 h
    | _, _, _, _, _, _, _ => none)
  | false => match Nat.beq pc 28 with
  | true => (match lk lv 0, lk lv 1, lk lv 2, lk lv 3, lk lv 4, lk lv 5, lk lv 6, st with
    | some (.inr (.inr (0, 6, 48))), some (.inr (.inr (0, 2, r1))), some (.inl a2), some (.inl a3), some (.inl a4), some (.inl a5), some (.inl a6), [] => F_Ranks_fill_28 N (L_Ranks_fill N n) r1 a2 a3 a4 a5 a6 h
    | _, _, _, _, _, _, _, _ => none)
  | false => none
def B_Ranks_fill (N : Nat) (n pc : Nat) (lv : ML) (st : List MV) (h : MH) : Option (Int32 × MH) :=
  match Nat.beq pc 6 with
  | true => (match lk lv 0, lk lv 1, lk lv 2, lk lv 3, lk lv 4, lk lv 5, st with
    | some (.inr (.inr (0, 6, 48))), some (.inr (.inr (0, 2, r1))), some (.inl a2), some (.inl a3), some (.inl a4), some (.inl a5), [] => ((L_Ranks_fill N n).1) r1 a2 a3 a4 a5 h
    | _, _, _, _, _, _, _ => none)
  | false => match Nat.beq pc 28 with
  | true => (match lk lv 0, lk lv 1, lk lv 2, lk lv 3, lk lv 4, lk lv 5, lk lv 6, st with
    | some (.inr (.inr (0, 6, 48))), some (.inr (.inr (0, 2, r1))), some (.inl a2), some (.inl a3), some (.inl a4), some (.inl a5), some (.inl a6), [] => ((L_Ranks_fill N n).2) r1 a2 a3 a4 a5 a6 h
    | _, _, _, _, _, _, _, _ => none)
  | false => none
set_option maxRecDepth 1000000 in
theorem E_Ranks_fill_0 (N : Nat) (n : Nat) (r1 : Nat) (a2 : Int32) (a3 : Int32) (h : MH) : seg (C_Ranks_fill N) 7 0 rI T_Ranks_fill [0, 6, 28] (fun q lv st h => match Nat.ble 1 q with
    | true => D_Ranks_fill N n q lv st h
    | false => B_Ranks_fill N n q lv st h) 400 true 0 [(0, .inr (.inr (0, 6, 48))), (1, .inr (.inr (0, 2, r1))), (2, .inl a2), (3, .inl a3)] [] h = F_Ranks_fill_0 N (L_Ranks_fill N n) r1 a2 a3 h := (rfl)
set_option maxRecDepth 1000000 in
theorem E_Ranks_fill_6 (N : Nat) (n : Nat) (r1 : Nat) (a2 : Int32) (a3 : Int32) (a4 : Int32) (a5 : Int32) (h : MH) : seg (C_Ranks_fill N) 7 0 rI T_Ranks_fill [0, 6, 28] (fun q lv st h => match Nat.ble 7 q with
    | true => D_Ranks_fill N n q lv st h
    | false => B_Ranks_fill N n q lv st h) 400 true 6 [(0, .inr (.inr (0, 6, 48))), (1, .inr (.inr (0, 2, r1))), (2, .inl a2), (3, .inl a3), (4, .inl a4), (5, .inl a5)] [] h = F_Ranks_fill_6 N (L_Ranks_fill N n) r1 a2 a3 a4 a5 h := (rfl)
set_option maxRecDepth 1000000 in
theorem E_Ranks_fill_28 (N : Nat) (n : Nat) (r1 : Nat) (a2 : Int32) (a3 : Int32) (a4 : Int32) (a5 : Int32) (a6 : Int32) (h : MH) : seg (C_Ranks_fill N) 7 0 rI T_Ranks_fill [0, 6, 28] (fun q lv st h => match Nat.ble 29 q with
    | true => D_Ranks_fill N n q lv st h
    | false => B_Ranks_fill N n q lv st h) 400 true 28 [(0, .inr (.inr (0, 6, 48))), (1, .inr (.inr (0, 2, r1))), (2, .inl a2), (3, .inl a3), (4, .inl a4), (5, .inl a5), (6, .inl a6)] [] h = F_Ranks_fill_28 N (L_Ranks_fill N n) r1 a2 a3 a4 a5 a6 h := (rfl)
set_option maxRecDepth 1000000 in
theorem chk_Ranks_fill : chkT 6 false prog_8_method_3_code T_Ranks_fill = true := by decide +kernel
theorem mc_Ranks_fill : mC 47 = prog_8_method_3_code := by rfl
theorem mx_Ranks_fill : mL 47 = 7 ∧ mR 47 = some .int ∧ mK 47 = 1 ∧ (mN 47).cls = cN 6 := by decide +kernel
theorem hD_Ranks_fill (N : Nat) {r : Int32 × MH} : ∀ n pc lv st h, D_Ranks_fill N n pc lv st h = some r → ∃ lv', (∀ q ∈ lv', q ∈ lv) ∧ seg (C_Ranks_fill N) 7 0 rI T_Ranks_fill [0, 6, 28] (fun q lv st h => match Nat.ble (pc + 1) q with
    | true => D_Ranks_fill N n q lv st h
    | false => B_Ranks_fill N n q lv st h) 400 true pc lv' st h = some r := by
  intro n pc lv st h hf
  unfold D_Ranks_fill at hf
  split at hf
  · rename_i hb
    have hb := Nat.eq_of_beq_eq_true hb
    subst hb
    split at hf
    · rename_i y0 y1 y2 e0 e1 e2 e3
      exact ⟨_, (sub_cons e0 (sub_cons e1 (sub_cons e2 (sub_cons e3 sub_nil)))), (E_Ranks_fill_0 N n _ _ _ h).trans hf⟩
    · cases hf
  · skip
    split at hf
    · rename_i hb
      have hb := Nat.eq_of_beq_eq_true hb
      subst hb
      split at hf
      · rename_i y0 y1 y2 y3 y4 e0 e1 e2 e3 e4 e5
        exact ⟨_, (sub_cons e0 (sub_cons e1 (sub_cons e2 (sub_cons e3 (sub_cons e4 (sub_cons e5 sub_nil)))))), (E_Ranks_fill_6 N n _ _ _ _ _ h).trans hf⟩
      · cases hf
    · skip
      split at hf
      · rename_i hb
        have hb := Nat.eq_of_beq_eq_true hb
        subst hb
        split at hf
        · rename_i y0 y1 y2 y3 y4 y5 e0 e1 e2 e3 e4 e5 e6
          exact ⟨_, (sub_cons e0 (sub_cons e1 (sub_cons e2 (sub_cons e3 (sub_cons e4 (sub_cons e5 (sub_cons e6 sub_nil))))))), (E_Ranks_fill_28 N n _ _ _ _ _ _ h).trans hf⟩
        · cases hf
      · skip
        cases hf
theorem hM_Ranks_fill (N : Nat) {r : Int32 × MH} : ∀ n pc lv st h, D_Ranks_fill N n pc lv st h = some r → pc < 85 := by
  intro n pc lv st h hf
  unfold D_Ranks_fill at hf
  split at hf
  · rename_i hb
    rw [Nat.eq_of_beq_eq_true hb]
    decide
  · skip
    split at hf
    · rename_i hb
      rw [Nat.eq_of_beq_eq_true hb]
      decide
    · skip
      split at hf
      · rename_i hb
        rw [Nat.eq_of_beq_eq_true hb]
        decide
      · skip
        cases hf
theorem hB_Ranks_fill (N : Nat) {r : Int32 × MH} : ∀ n pc lv st h, B_Ranks_fill N n pc lv st h = some r → ∃ k, n = k + 1 ∧ D_Ranks_fill N k pc lv st h = some r := by
  intro n pc lv st h hf
  unfold B_Ranks_fill at hf
  split at hf
  · rename_i hb
    have hb := Nat.eq_of_beq_eq_true hb
    subst hb
    cases n with
    | zero =>
      split at hf
      · cases hf
      · cases hf
    | succ k =>
      refine ⟨k, rfl, ?_⟩
      exact hf
  · skip
    split at hf
    · rename_i hb
      have hb := Nat.eq_of_beq_eq_true hb
      subst hb
      cases n with
      | zero =>
        split at hf
        · cases hf
        · cases hf
      | succ k =>
        refine ⟨k, rfl, ?_⟩
        exact hf
    · skip
      cases hf
theorem s_Ranks_fill {l : Launch} {E : EV} {N : Nat} {as : List MV} {h : MH} {r : Int32 × MH} (hf : w_Ranks_fill (f_Ranks_fill N) as h = some r) : SndM l E false 1 47 as h (some (.inl r.1)) r.2 := by
  unfold w_Ranks_fill at hf
  split at hf
  · obtain ⟨m1, m2, m3, m4⟩ := mx_Ranks_fill
    refine snd_of (C := C_Ranks_fill N) (own := 6) (rz := 0) (lim := 115) rI_eq m2 m4 pl_47 (TB_in _ cw_47 rfl) ⟨(fun _ => ⟨_, _, _, _, _, _, rfl, rfl, by rw [m4]; rfl⟩), (fun z => by rw [m3] at z; cases z)⟩ (fun z => by cases z) KDL_take rfl rfl (fun z => by cases z) (fun z => by cases z) (fun _ => rfl) (by rw [m1]; exact Nat.le_of_ble_eq_true rfl)
      (fun j as h x z => by
      dsimp only [C_Ranks_fill] at z
      cases hb : Nat.beq j 15 with
      | true =>
        have hb := Nat.eq_of_beq_eq_true hb
        subst hb
        exact ⟨0, by decide, (fun z => by cases z), s_Land_unit z⟩
      | false =>
        rw [hb] at z
        dsimp only at z
        cases z)
      (fun _ _ _ _ z => by cases z)
      (fun _ _ _ _ z => by cases z)
      (fun _ _ _ _ z => by cases z)
      (fun p e R s m args below meth c Q n0 F hret => ?_)
    rw [m1] at F hret ⊢
    rw [mc_Ranks_fill] at F hret
    exact cuts_s (K := 400) (M := 85) (D := D_Ranks_fill N) (B := B_Ranks_fill N) F hret (chkT_ok chk_Ranks_fill) (hM_Ranks_fill N) (hB_Ranks_fill N) (hD_Ranks_fill N) N 0 _ _ _ hf
  · cases hf
def T_Ranks_rowWithout0 : List (List (Option RW)) := [
  [some (.iload_n 2, 1, [2], 0, 0), some (.istore 4, 2, [4], 0, 0), none, some (.iload 4, 2, [4], 0, 0), none, some (.iload_n 3, 1, [3], 0, 0), some (.if_icmp .ge 29, 3, [35], 0, 0), none, none, some (.aload_n 0, 1, [0], 0, 0), some (.getfield 9, 3, [6, 0, 2, 2, 48, 1], 0, 0), none, none, some (.iload 4, 2, [4], 0, 0), none, some (.bipush 6, 2, [], 6, 0), none, some (.imul, 1, [], 0, 0), some (.iload_n 1, 1, [1], 0, 0), some (.iadd, 1, [], 0, 0), some (.laload, 1, [], 0, 0), some (.lconst 0, 1, [], 0, 0), some (.lcmp, 1, [], 0, 0), some (.ifCond .eq 6, 3, [29], 0, 0), none, none, some (.iload 4, 2, [4], 0, 0), none, some (.ireturn, 1, [], 0, 0), some (.iinc 4 1, 3, [4], 1, 0), none, none],
  [some (.goto (-29), 3, [3], 0, 0), none, none, some (.iconst (-1), 1, [], (-1), 0), some (.ireturn, 1, [], 0, 0)]]
def F_Ranks_rowWithout0_3 (N : Nat) (bk : (Int32 → Int32 → Int32 → MH → Option (Int32 × MH))) (a1 : Int32) (a3 : Int32) (a4 : Int32) (h : MH) : Option (Int32 × MH) :=
  if a3 ≤ a4 then
  (some ((-1), h))
  else
  (if inB ((a4 * 6) + a1) 48 = true then
  (if (lg_cmp (gJ h 49 (iN ((a4 * 6) + a1))) 0) = 0 then
  (let v1 : Int32 := a4 + 1
  bk a1 a3 v1 h)
  else
  (some (a4, h)))
  else none)
def F_Ranks_rowWithout0_0 (N : Nat) (bk : (Int32 → Int32 → Int32 → MH → Option (Int32 × MH))) (a1 : Int32) (a2 : Int32) (a3 : Int32) (h : MH) : Option (Int32 × MH) :=
  F_Ranks_rowWithout0_3 N bk a1 a3 a2 h
def L_Ranks_rowWithout0 (N : Nat) : Nat → (Int32 → Int32 → Int32 → MH → Option (Int32 × MH))
  | 0 => fun _ _ _ _ => none
  | n + 1 => F_Ranks_rowWithout0_3 N (L_Ranks_rowWithout0 N n)
def f_Ranks_rowWithout0 (N : Nat) (a1 : Int32) (a2 : Int32) (a3 : Int32) (h : MH) : Option (Int32 × MH) := F_Ranks_rowWithout0_0 N (L_Ranks_rowWithout0 N N) a1 a2 a3 h
def C_Ranks_rowWithout0 (N : Nat) : MC := (KDL, false, (fun _ => 0), jsB, (fun _ _ _ => none), (fun _ _ _ => none), (fun _ _ _ => none), (fun _ _ _ => none))
def D_Ranks_rowWithout0 (N : Nat) (n pc : Nat) (lv : ML) (st : List MV) (h : MH) : Option (Int32 × MH) :=
  match Nat.beq pc 0 with
  | true => (match lk lv 0, lk lv 1, lk lv 2, lk lv 3, st with
    | some (.inr (.inr (0, 6, 48))), some (.inl a1), some (.inl a2), some (.inl a3), [] => F_Ranks_rowWithout0_0 N (L_Ranks_rowWithout0 N n) a1 a2 a3 h
    | _, _, _, _, _ => none)
  | false => match Nat.beq pc 3 with
  | true => (match lk lv 0, lk lv 1, lk lv 3, lk lv 4, st with
    | some (.inr (.inr (0, 6, 48))), some (.inl a1), some (.inl a3), some (.inl a4), [] => F_Ranks_rowWithout0_3 N (L_Ranks_rowWithout0 N n) a1 a3 a4 h
    | _, _, _, _, _ => none)
  | false => none
def B_Ranks_rowWithout0 (N : Nat) (n pc : Nat) (lv : ML) (st : List MV) (h : MH) : Option (Int32 × MH) :=
  match Nat.beq pc 3 with
  | true => (match lk lv 0, lk lv 1, lk lv 3, lk lv 4, st with
    | some (.inr (.inr (0, 6, 48))), some (.inl a1), some (.inl a3), some (.inl a4), [] => ((L_Ranks_rowWithout0 N n)) a1 a3 a4 h
    | _, _, _, _, _ => none)
  | false => none
set_option maxRecDepth 1000000 in
theorem E_Ranks_rowWithout0_0 (N : Nat) (n : Nat) (a1 : Int32) (a2 : Int32) (a3 : Int32) (h : MH) : seg (C_Ranks_rowWithout0 N) 5 0 rI T_Ranks_rowWithout0 [0, 3] (fun q lv st h => match Nat.ble 1 q with
    | true => D_Ranks_rowWithout0 N n q lv st h
    | false => B_Ranks_rowWithout0 N n q lv st h) 400 true 0 [(0, .inr (.inr (0, 6, 48))), (1, .inl a1), (2, .inl a2), (3, .inl a3)] [] h = F_Ranks_rowWithout0_0 N (L_Ranks_rowWithout0 N n) a1 a2 a3 h := (rfl)
set_option maxRecDepth 1000000 in
theorem E_Ranks_rowWithout0_3 (N : Nat) (n : Nat) (a1 : Int32) (a3 : Int32) (a4 : Int32) (h : MH) : seg (C_Ranks_rowWithout0 N) 5 0 rI T_Ranks_rowWithout0 [0, 3] (fun q lv st h => match Nat.ble 4 q with
    | true => D_Ranks_rowWithout0 N n q lv st h
    | false => B_Ranks_rowWithout0 N n q lv st h) 400 true 3 [(0, .inr (.inr (0, 6, 48))), (1, .inl a1), (3, .inl a3), (4, .inl a4)] [] h = F_Ranks_rowWithout0_3 N (L_Ranks_rowWithout0 N n) a1 a3 a4 h := (rfl)
set_option maxRecDepth 1000000 in
theorem chk_Ranks_rowWithout0 : chkT 6 false prog_8_method_4_code T_Ranks_rowWithout0 = true := by decide +kernel
theorem mc_Ranks_rowWithout0 : mC 48 = prog_8_method_4_code := by rfl
theorem mx_Ranks_rowWithout0 : mL 48 = 5 ∧ mR 48 = some .int ∧ mK 48 = 1 ∧ (mN 48).cls = cN 6 := by decide +kernel
theorem hD_Ranks_rowWithout0 (N : Nat) {r : Int32 × MH} : ∀ n pc lv st h, D_Ranks_rowWithout0 N n pc lv st h = some r → ∃ lv', (∀ q ∈ lv', q ∈ lv) ∧ seg (C_Ranks_rowWithout0 N) 5 0 rI T_Ranks_rowWithout0 [0, 3] (fun q lv st h => match Nat.ble (pc + 1) q with
    | true => D_Ranks_rowWithout0 N n q lv st h
    | false => B_Ranks_rowWithout0 N n q lv st h) 400 true pc lv' st h = some r := by
  intro n pc lv st h hf
  unfold D_Ranks_rowWithout0 at hf
  split at hf
  · rename_i hb
    have hb := Nat.eq_of_beq_eq_true hb
    subst hb
    split at hf
    · rename_i y0 y1 y2 e0 e1 e2 e3
      exact ⟨_, (sub_cons e0 (sub_cons e1 (sub_cons e2 (sub_cons e3 sub_nil)))), (E_Ranks_rowWithout0_0 N n _ _ _ h).trans hf⟩
    · cases hf
  · skip
    split at hf
    · rename_i hb
      have hb := Nat.eq_of_beq_eq_true hb
      subst hb
      split at hf
      · rename_i y0 y1 y2 e0 e1 e2 e3
        exact ⟨_, (sub_cons e0 (sub_cons e1 (sub_cons e2 (sub_cons e3 sub_nil)))), (E_Ranks_rowWithout0_3 N n _ _ _ h).trans hf⟩
      · cases hf
    · skip
      cases hf
theorem hM_Ranks_rowWithout0 (N : Nat) {r : Int32 × MH} : ∀ n pc lv st h, D_Ranks_rowWithout0 N n pc lv st h = some r → pc < 37 := by
  intro n pc lv st h hf
  unfold D_Ranks_rowWithout0 at hf
  split at hf
  · rename_i hb
    rw [Nat.eq_of_beq_eq_true hb]
    decide
  · skip
    split at hf
    · rename_i hb
      rw [Nat.eq_of_beq_eq_true hb]
      decide
    · skip
      cases hf
theorem hB_Ranks_rowWithout0 (N : Nat) {r : Int32 × MH} : ∀ n pc lv st h, B_Ranks_rowWithout0 N n pc lv st h = some r → ∃ k, n = k + 1 ∧ D_Ranks_rowWithout0 N k pc lv st h = some r := by
  intro n pc lv st h hf
  unfold B_Ranks_rowWithout0 at hf
  split at hf
  · rename_i hb
    have hb := Nat.eq_of_beq_eq_true hb
    subst hb
    cases n with
    | zero =>
      split at hf
      · cases hf
      · cases hf
    | succ k =>
      refine ⟨k, rfl, ?_⟩
      exact hf
  · skip
    cases hf
theorem s_Ranks_rowWithout0 {l : Launch} {E : EV} {N : Nat} {as : List MV} {h : MH} {r : Int32 × MH} (hf : w_Ranks_rowWithout0 (f_Ranks_rowWithout0 N) as h = some r) : SndM l E false 0 48 as h (some (.inl r.1)) r.2 := by
  unfold w_Ranks_rowWithout0 at hf
  split at hf
  · obtain ⟨m1, m2, m3, m4⟩ := mx_Ranks_rowWithout0
    refine snd_of (C := C_Ranks_rowWithout0 N) (own := 6) (rz := 0) (lim := 115) rI_eq m2 m4 pl_48 (TB_in _ cw_48 rfl) ⟨(fun _ => ⟨_, _, _, _, _, _, rfl, rfl, by rw [m4]; rfl⟩), (fun z => by rw [m3] at z; cases z)⟩ (fun z => by cases z) KDL_take rfl rfl (fun z => by cases z) (fun z => by cases z) (fun _ => rfl) (by rw [m1]; exact Nat.le_of_ble_eq_true rfl)
      (fun _ _ _ _ z => by cases z)
      (fun _ _ _ _ z => by cases z)
      (fun _ _ _ _ z => by cases z)
      (fun _ _ _ _ z => by cases z)
      (fun p e R s m args below meth c Q n0 F hret => ?_)
    rw [m1] at F hret ⊢
    rw [mc_Ranks_rowWithout0] at F hret
    exact cuts_s (K := 400) (M := 37) (D := D_Ranks_rowWithout0 N) (B := B_Ranks_rowWithout0 N) F hret (chkT_ok chk_Ranks_rowWithout0) (hM_Ranks_rowWithout0 N) (hB_Ranks_rowWithout0 N) (hD_Ranks_rowWithout0 N) N 0 _ _ _ hf
  · cases hf
def T_Ranks_swapRows : List (List (Option RW)) := [
  [some (.iconst 0, 1, [], 0, 0), some (.istore_n 3, 1, [3], 0, 0), some (.iload_n 3, 1, [3], 0, 0), some (.bipush 6, 2, [], 6, 0), none, some (.if_icmp .ge 57, 3, [62], 0, 0), none, none, some (.aload_n 0, 1, [0], 0, 0), some (.getfield 9, 3, [6, 0, 2, 2, 48, 1], 0, 0), none, none, some (.iload_n 1, 1, [1], 0, 0), some (.bipush 6, 2, [], 6, 0), none, some (.imul, 1, [], 0, 0), some (.iload_n 3, 1, [3], 0, 0), some (.iadd, 1, [], 0, 0), some (.laload, 1, [], 0, 0), some (.lstore 4, 2, [4], 0, 0), none, some (.aload_n 0, 1, [0], 0, 0), some (.getfield 9, 3, [6, 0, 2, 2, 48, 1], 0, 0), none, none, some (.iload_n 1, 1, [1], 0, 0), some (.bipush 6, 2, [], 6, 0), none, some (.imul, 1, [], 0, 0), some (.iload_n 3, 1, [3], 0, 0), some (.iadd, 1, [], 0, 0), some (.aload_n 0, 1, [0], 0, 0)],
  [some (.getfield 9, 3, [6, 0, 2, 2, 48, 1], 0, 0), none, none, some (.iload_n 2, 1, [2], 0, 0), some (.bipush 6, 2, [], 6, 0), none, some (.imul, 1, [], 0, 0), some (.iload_n 3, 1, [3], 0, 0), some (.iadd, 1, [], 0, 0), some (.laload, 1, [], 0, 0), some (.lastore, 1, [], 0, 0), some (.aload_n 0, 1, [0], 0, 0), some (.getfield 9, 3, [6, 0, 2, 2, 48, 1], 0, 0), none, none, some (.iload_n 2, 1, [2], 0, 0), some (.bipush 6, 2, [], 6, 0), none, some (.imul, 1, [], 0, 0), some (.iload_n 3, 1, [3], 0, 0), some (.iadd, 1, [], 0, 0), some (.lload 4, 2, [4], 0, 0), none, some (.lastore, 1, [], 0, 0), some (.iinc 3 1, 3, [3], 1, 0), none, none, some (.goto (-57), 3, [2], 0, 0), none, none, some (.return_, 1, [], 0, 0)]]
def F_Ranks_swapRows_2 (N : Nat) (bk : (Int32 → Int32 → Int32 → MH → Option (MH))) (a1 : Int32) (a2 : Int32) (a3 : Int32) (h : MH) : Option (MH) :=
  if 6 ≤ a3 then
  (some h)
  else
  (if inB ((a1 * 6) + a3) 48 = true then
  (let v1 : Int64 := gJ h 49 (iN ((a1 * 6) + a3))
  if inB ((a2 * 6) + a3) 48 = true then
  (if inB ((a1 * 6) + a3) 48 = true then
  (let h2 : MH := sJ h 49 (iN ((a1 * 6) + a3)) (gJ h 49 (iN ((a2 * 6) + a3)))
  if inB ((a2 * 6) + a3) 48 = true then
  (let h3 : MH := sJ h2 49 (iN ((a2 * 6) + a3)) v1
  let v4 : Int32 := a3 + 1
  bk a1 a2 v4 h3)
  else none)
  else none)
  else none)
  else none)
def F_Ranks_swapRows_0 (N : Nat) (bk : (Int32 → Int32 → Int32 → MH → Option (MH))) (a1 : Int32) (a2 : Int32) (h : MH) : Option (MH) :=
  F_Ranks_swapRows_2 N bk a1 a2 0 h
def L_Ranks_swapRows (N : Nat) : Nat → (Int32 → Int32 → Int32 → MH → Option (MH))
  | 0 => fun _ _ _ _ => none
  | n + 1 => F_Ranks_swapRows_2 N (L_Ranks_swapRows N n)
def f_Ranks_swapRows (N : Nat) (a1 : Int32) (a2 : Int32) (h : MH) : Option (MH) := F_Ranks_swapRows_0 N (L_Ranks_swapRows N N) a1 a2 h
def C_Ranks_swapRows (N : Nat) : MC := (KDL, false, (fun _ => 0), jsB, (fun _ _ _ => none), (fun _ _ _ => none), (fun _ _ _ => none), (fun _ _ _ => none))
def D_Ranks_swapRows (N : Nat) (n pc : Nat) (lv : ML) (st : List MV) (h : MH) : Option (MH) :=
  match Nat.beq pc 0 with
  | true => (match lk lv 0, lk lv 1, lk lv 2, st with
    | some (.inr (.inr (0, 6, 48))), some (.inl a1), some (.inl a2), [] => F_Ranks_swapRows_0 N (L_Ranks_swapRows N n) a1 a2 h
    | _, _, _, _ => none)
  | false => match Nat.beq pc 2 with
  | true => (match lk lv 0, lk lv 1, lk lv 2, lk lv 3, st with
    | some (.inr (.inr (0, 6, 48))), some (.inl a1), some (.inl a2), some (.inl a3), [] => F_Ranks_swapRows_2 N (L_Ranks_swapRows N n) a1 a2 a3 h
    | _, _, _, _, _ => none)
  | false => none
def B_Ranks_swapRows (N : Nat) (n pc : Nat) (lv : ML) (st : List MV) (h : MH) : Option (MH) :=
  match Nat.beq pc 2 with
  | true => (match lk lv 0, lk lv 1, lk lv 2, lk lv 3, st with
    | some (.inr (.inr (0, 6, 48))), some (.inl a1), some (.inl a2), some (.inl a3), [] => ((L_Ranks_swapRows N n)) a1 a2 a3 h
    | _, _, _, _, _ => none)
  | false => none
set_option maxRecDepth 1000000 in
theorem E_Ranks_swapRows_0 (N : Nat) (n : Nat) (a1 : Int32) (a2 : Int32) (h : MH) : seg (C_Ranks_swapRows N) 6 0 rV T_Ranks_swapRows [0, 2] (fun q lv st h => match Nat.ble 1 q with
    | true => D_Ranks_swapRows N n q lv st h
    | false => B_Ranks_swapRows N n q lv st h) 400 true 0 [(0, .inr (.inr (0, 6, 48))), (1, .inl a1), (2, .inl a2)] [] h = F_Ranks_swapRows_0 N (L_Ranks_swapRows N n) a1 a2 h := (rfl)
set_option maxRecDepth 1000000 in
theorem E_Ranks_swapRows_2 (N : Nat) (n : Nat) (a1 : Int32) (a2 : Int32) (a3 : Int32) (h : MH) : seg (C_Ranks_swapRows N) 6 0 rV T_Ranks_swapRows [0, 2] (fun q lv st h => match Nat.ble 3 q with
    | true => D_Ranks_swapRows N n q lv st h
    | false => B_Ranks_swapRows N n q lv st h) 400 true 2 [(0, .inr (.inr (0, 6, 48))), (1, .inl a1), (2, .inl a2), (3, .inl a3)] [] h = F_Ranks_swapRows_2 N (L_Ranks_swapRows N n) a1 a2 a3 h := (rfl)
set_option maxRecDepth 1000000 in
theorem chk_Ranks_swapRows : chkT 6 false prog_8_method_5_code T_Ranks_swapRows = true := by decide +kernel
theorem mc_Ranks_swapRows : mC 49 = prog_8_method_5_code := by rfl
theorem mx_Ranks_swapRows : mL 49 = 6 ∧ mR 49 = none ∧ mK 49 = 1 ∧ (mN 49).cls = cN 6 := by decide +kernel
theorem hD_Ranks_swapRows (N : Nat) {r : MH} : ∀ n pc lv st h, D_Ranks_swapRows N n pc lv st h = some r → ∃ lv', (∀ q ∈ lv', q ∈ lv) ∧ seg (C_Ranks_swapRows N) 6 0 rV T_Ranks_swapRows [0, 2] (fun q lv st h => match Nat.ble (pc + 1) q with
    | true => D_Ranks_swapRows N n q lv st h
    | false => B_Ranks_swapRows N n q lv st h) 400 true pc lv' st h = some r := by
  intro n pc lv st h hf
  unfold D_Ranks_swapRows at hf
  split at hf
  · rename_i hb
    have hb := Nat.eq_of_beq_eq_true hb
    subst hb
    split at hf
    · rename_i y0 y1 e0 e1 e2
      exact ⟨_, (sub_cons e0 (sub_cons e1 (sub_cons e2 sub_nil))), (E_Ranks_swapRows_0 N n _ _ h).trans hf⟩
    · cases hf
  · skip
    split at hf
    · rename_i hb
      have hb := Nat.eq_of_beq_eq_true hb
      subst hb
      split at hf
      · rename_i y0 y1 y2 e0 e1 e2 e3
        exact ⟨_, (sub_cons e0 (sub_cons e1 (sub_cons e2 (sub_cons e3 sub_nil)))), (E_Ranks_swapRows_2 N n _ _ _ h).trans hf⟩
      · cases hf
    · skip
      cases hf
theorem hM_Ranks_swapRows (N : Nat) {r : MH} : ∀ n pc lv st h, D_Ranks_swapRows N n pc lv st h = some r → pc < 63 := by
  intro n pc lv st h hf
  unfold D_Ranks_swapRows at hf
  split at hf
  · rename_i hb
    rw [Nat.eq_of_beq_eq_true hb]
    decide
  · skip
    split at hf
    · rename_i hb
      rw [Nat.eq_of_beq_eq_true hb]
      decide
    · skip
      cases hf
theorem hB_Ranks_swapRows (N : Nat) {r : MH} : ∀ n pc lv st h, B_Ranks_swapRows N n pc lv st h = some r → ∃ k, n = k + 1 ∧ D_Ranks_swapRows N k pc lv st h = some r := by
  intro n pc lv st h hf
  unfold B_Ranks_swapRows at hf
  split at hf
  · rename_i hb
    have hb := Nat.eq_of_beq_eq_true hb
    subst hb
    cases n with
    | zero =>
      split at hf
      · cases hf
      · cases hf
    | succ k =>
      refine ⟨k, rfl, ?_⟩
      exact hf
  · skip
    cases hf
theorem s_Ranks_swapRows {l : Launch} {E : EV} {N : Nat} {as : List MV} {h : MH} {r : MH} (hf : w_Ranks_swapRows (f_Ranks_swapRows N) as h = some r) : SndM l E false 0 49 as h none r := by
  unfold w_Ranks_swapRows at hf
  split at hf
  · obtain ⟨m1, m2, m3, m4⟩ := mx_Ranks_swapRows
    refine snd_of (C := C_Ranks_swapRows N) (own := 6) (rz := 0) (lim := 115) rV_eq m2 m4 pl_49 (TB_in _ cw_49 rfl) ⟨(fun _ => ⟨_, _, _, _, _, _, rfl, rfl, by rw [m4]; rfl⟩), (fun z => by rw [m3] at z; cases z)⟩ (fun z => by cases z) KDL_take rfl rfl (fun z => by cases z) (fun z => by cases z) (fun _ => rfl) (by rw [m1]; exact Nat.le_of_ble_eq_true rfl)
      (fun _ _ _ _ z => by cases z)
      (fun _ _ _ _ z => by cases z)
      (fun _ _ _ _ z => by cases z)
      (fun _ _ _ _ z => by cases z)
      (fun p e R s m args below meth c Q n0 F hret => ?_)
    rw [m1] at F hret ⊢
    rw [mc_Ranks_swapRows] at F hret
    exact cuts_s (K := 400) (M := 63) (D := D_Ranks_swapRows N) (B := B_Ranks_swapRows N) F hret (chkT_ok chk_Ranks_swapRows) (hM_Ranks_swapRows N) (hB_Ranks_swapRows N) (hD_Ranks_swapRows N) N 0 _ _ _ hf
  · cases hf
def T_Ranks_eliminate : List (List (Option RW)) := [
  [some (.aload_n 0, 1, [0], 0, 0), some (.getfield 9, 3, [6, 0, 2, 2, 48, 1], 0, 0), none, none, some (.iload_n 1, 1, [1], 0, 0), some (.bipush 6, 2, [], 6, 0), none, some (.imul, 1, [], 0, 0), some (.iload_n 3, 1, [3], 0, 0), some (.iadd, 1, [], 0, 0), some (.laload, 1, [], 0, 0), some (.lstore 6, 2, [6], 0, 0), none, some (.aload_n 0, 1, [0], 0, 0), some (.getfield 9, 3, [6, 0, 2, 2, 48, 1], 0, 0), none, none, some (.iload_n 2, 1, [2], 0, 0), some (.bipush 6, 2, [], 6, 0), none, some (.imul, 1, [], 0, 0), some (.iload_n 3, 1, [3], 0, 0), some (.iadd, 1, [], 0, 0), some (.laload, 1, [], 0, 0), some (.lstore 8, 2, [8], 0, 0), none, some (.iload_n 3, 1, [3], 0, 0), some (.istore 10, 2, [10], 0, 0), none, some (.iload 10, 2, [10], 0, 0), none, some (.bipush 6, 2, [], 6, 0)],
  [none, some (.if_icmp .ge 61, 3, [94], 0, 0), none, none, some (.lload 4, 2, [4], 0, 0), none, some (.lconst 0, 1, [], 0, 0), some (.lcmp, 1, [], 0, 0), some (.ifCond .eq 54, 3, [94], 0, 0), none, none, some (.iload_n 2, 1, [2], 0, 0), some (.bipush 6, 2, [], 6, 0), none, some (.imul, 1, [], 0, 0), some (.iload 10, 2, [10], 0, 0), none, some (.iadd, 1, [], 0, 0), some (.istore 11, 2, [11], 0, 0), none, some (.aload_n 0, 1, [0], 0, 0), some (.getfield 9, 3, [6, 0, 2, 2, 48, 1], 0, 0), none, none, some (.iload 11, 2, [11], 0, 0), none, some (.aload_n 0, 1, [0], 0, 0), some (.getfield 9, 3, [6, 0, 2, 2, 48, 1], 0, 0), none, none, some (.iload 11, 2, [11], 0, 0), none],
  [some (.laload, 1, [], 0, 0), some (.lload 6, 2, [6], 0, 0), none, some (.lmul, 1, [], 0, 0), some (.aload_n 0, 1, [0], 0, 0), some (.getfield 9, 3, [6, 0, 2, 2, 48, 1], 0, 0), none, none, some (.iload_n 1, 1, [1], 0, 0), some (.bipush 6, 2, [], 6, 0), none, some (.imul, 1, [], 0, 0), some (.iload 10, 2, [10], 0, 0), none, some (.iadd, 1, [], 0, 0), some (.laload, 1, [], 0, 0), some (.lload 8, 2, [8], 0, 0), none, some (.lmul, 1, [], 0, 0), some (.lsub, 1, [], 0, 0), some (.lload 4, 2, [4], 0, 0), none, some (.ldiv, 1, [], 0, 0), some (.lastore, 1, [], 0, 0), some (.iinc 10 1, 3, [10], 1, 0), none, none, some (.goto (-62), 3, [29], 0, 0), none, none, some (.return_, 1, [], 0, 0)]]
def F_Ranks_eliminate_29 (N : Nat) (bk : (Int32 → Int32 → Int64 → Int64 → Int64 → Int32 → MH → Option (MH))) (a1 : Int32) (a2 : Int32) (a4 : Int64) (a6 : Int64) (a8 : Int64) (a10 : Int32) (h : MH) : Option (MH) :=
  if 6 ≤ a10 then
  (some h)
  else
  (if (lg_cmp a4 0) = 0 then
  (some h)
  else
  (let v3 : Int32 := (a2 * 6) + a10
  if inB v3 48 = true then
  (if inB ((a1 * 6) + a10) 48 = true then
  (if a4 = 0 then none else
  if inB v3 48 = true then
  (let h4 : MH := sJ h 49 (iN v3) ((((gJ h 49 (iN v3)) * a6) - ((gJ h 49 (iN ((a1 * 6) + a10))) * a8)) / a4)
  let v5 : Int32 := a10 + 1
  bk a1 a2 a4 a6 a8 v5 h4)
  else none)
  else none)
  else none))
def F_Ranks_eliminate_0 (N : Nat) (bk : (Int32 → Int32 → Int64 → Int64 → Int64 → Int32 → MH → Option (MH))) (a1 : Int32) (a2 : Int32) (a3 : Int32) (a4 : Int64) (h : MH) : Option (MH) :=
  if inB ((a1 * 6) + a3) 48 = true then
  (let v1 : Int64 := gJ h 49 (iN ((a1 * 6) + a3))
  if inB ((a2 * 6) + a3) 48 = true then
  (let v2 : Int64 := gJ h 49 (iN ((a2 * 6) + a3))
  F_Ranks_eliminate_29 N bk a1 a2 a4 v1 v2 a3 h)
  else none)
  else none
def L_Ranks_eliminate (N : Nat) : Nat → (Int32 → Int32 → Int64 → Int64 → Int64 → Int32 → MH → Option (MH))
  | 0 => fun _ _ _ _ _ _ _ => none
  | n + 1 => F_Ranks_eliminate_29 N (L_Ranks_eliminate N n)
def f_Ranks_eliminate (N : Nat) (a1 : Int32) (a2 : Int32) (a3 : Int32) (a4 : Int64) (h : MH) : Option (MH) := F_Ranks_eliminate_0 N (L_Ranks_eliminate N N) a1 a2 a3 a4 h
def C_Ranks_eliminate (N : Nat) : MC := (KDL, false, (fun _ => 0), jsB, (fun _ _ _ => none), (fun _ _ _ => none), (fun _ _ _ => none), (fun _ _ _ => none))
def D_Ranks_eliminate (N : Nat) (n pc : Nat) (lv : ML) (st : List MV) (h : MH) : Option (MH) :=
  match Nat.beq pc 0 with
  | true => (match lk lv 0, lk lv 1, lk lv 2, lk lv 3, lk lv 4, st with
    | some (.inr (.inr (0, 6, 48))), some (.inl a1), some (.inl a2), some (.inl a3), some (.inr (.inl a4)), [] => F_Ranks_eliminate_0 N (L_Ranks_eliminate N n) a1 a2 a3 a4 h
    | _, _, _, _, _, _ => none)
  | false => match Nat.beq pc 29 with
  | true => (match lk lv 0, lk lv 1, lk lv 2, lk lv 4, lk lv 6, lk lv 8, lk lv 10, st with
    | some (.inr (.inr (0, 6, 48))), some (.inl a1), some (.inl a2), some (.inr (.inl a4)), some (.inr (.inl a6)), some (.inr (.inl a8)), some (.inl a10), [] => F_Ranks_eliminate_29 N (L_Ranks_eliminate N n) a1 a2 a4 a6 a8 a10 h
    | _, _, _, _, _, _, _, _ => none)
  | false => none
def B_Ranks_eliminate (N : Nat) (n pc : Nat) (lv : ML) (st : List MV) (h : MH) : Option (MH) :=
  match Nat.beq pc 29 with
  | true => (match lk lv 0, lk lv 1, lk lv 2, lk lv 4, lk lv 6, lk lv 8, lk lv 10, st with
    | some (.inr (.inr (0, 6, 48))), some (.inl a1), some (.inl a2), some (.inr (.inl a4)), some (.inr (.inl a6)), some (.inr (.inl a8)), some (.inl a10), [] => ((L_Ranks_eliminate N n)) a1 a2 a4 a6 a8 a10 h
    | _, _, _, _, _, _, _, _ => none)
  | false => none
set_option maxRecDepth 1000000 in
theorem E_Ranks_eliminate_0 (N : Nat) (n : Nat) (a1 : Int32) (a2 : Int32) (a3 : Int32) (a4 : Int64) (h : MH) : seg (C_Ranks_eliminate N) 12 0 rV T_Ranks_eliminate [0, 29] (fun q lv st h => match Nat.ble 1 q with
    | true => D_Ranks_eliminate N n q lv st h
    | false => B_Ranks_eliminate N n q lv st h) 400 true 0 [(0, .inr (.inr (0, 6, 48))), (1, .inl a1), (2, .inl a2), (3, .inl a3), (4, .inr (.inl a4))] [] h = F_Ranks_eliminate_0 N (L_Ranks_eliminate N n) a1 a2 a3 a4 h := (rfl)
set_option maxRecDepth 1000000 in
theorem E_Ranks_eliminate_29 (N : Nat) (n : Nat) (a1 : Int32) (a2 : Int32) (a4 : Int64) (a6 : Int64) (a8 : Int64) (a10 : Int32) (h : MH) : seg (C_Ranks_eliminate N) 12 0 rV T_Ranks_eliminate [0, 29] (fun q lv st h => match Nat.ble 30 q with
    | true => D_Ranks_eliminate N n q lv st h
    | false => B_Ranks_eliminate N n q lv st h) 400 true 29 [(0, .inr (.inr (0, 6, 48))), (1, .inl a1), (2, .inl a2), (4, .inr (.inl a4)), (6, .inr (.inl a6)), (8, .inr (.inl a8)), (10, .inl a10)] [] h = F_Ranks_eliminate_29 N (L_Ranks_eliminate N n) a1 a2 a4 a6 a8 a10 h := (rfl)
set_option maxRecDepth 1000000 in
theorem chk_Ranks_eliminate : chkT 6 false prog_8_method_6_code T_Ranks_eliminate = true := by decide +kernel
theorem mc_Ranks_eliminate : mC 50 = prog_8_method_6_code := by rfl
theorem mx_Ranks_eliminate : mL 50 = 12 ∧ mR 50 = none ∧ mK 50 = 1 ∧ (mN 50).cls = cN 6 := by decide +kernel
theorem hD_Ranks_eliminate (N : Nat) {r : MH} : ∀ n pc lv st h, D_Ranks_eliminate N n pc lv st h = some r → ∃ lv', (∀ q ∈ lv', q ∈ lv) ∧ seg (C_Ranks_eliminate N) 12 0 rV T_Ranks_eliminate [0, 29] (fun q lv st h => match Nat.ble (pc + 1) q with
    | true => D_Ranks_eliminate N n q lv st h
    | false => B_Ranks_eliminate N n q lv st h) 400 true pc lv' st h = some r := by
  intro n pc lv st h hf
  unfold D_Ranks_eliminate at hf
  split at hf
  · rename_i hb
    have hb := Nat.eq_of_beq_eq_true hb
    subst hb
    split at hf
    · rename_i y0 y1 y2 y3 e0 e1 e2 e3 e4
      exact ⟨_, (sub_cons e0 (sub_cons e1 (sub_cons e2 (sub_cons e3 (sub_cons e4 sub_nil))))), (E_Ranks_eliminate_0 N n _ _ _ _ h).trans hf⟩
    · cases hf
  · skip
    split at hf
    · rename_i hb
      have hb := Nat.eq_of_beq_eq_true hb
      subst hb
      split at hf
      · rename_i y0 y1 y2 y3 y4 y5 e0 e1 e2 e3 e4 e5 e6
        exact ⟨_, (sub_cons e0 (sub_cons e1 (sub_cons e2 (sub_cons e3 (sub_cons e4 (sub_cons e5 (sub_cons e6 sub_nil))))))), (E_Ranks_eliminate_29 N n _ _ _ _ _ _ h).trans hf⟩
      · cases hf
    · skip
      cases hf
theorem hM_Ranks_eliminate (N : Nat) {r : MH} : ∀ n pc lv st h, D_Ranks_eliminate N n pc lv st h = some r → pc < 95 := by
  intro n pc lv st h hf
  unfold D_Ranks_eliminate at hf
  split at hf
  · rename_i hb
    rw [Nat.eq_of_beq_eq_true hb]
    decide
  · skip
    split at hf
    · rename_i hb
      rw [Nat.eq_of_beq_eq_true hb]
      decide
    · skip
      cases hf
theorem hB_Ranks_eliminate (N : Nat) {r : MH} : ∀ n pc lv st h, B_Ranks_eliminate N n pc lv st h = some r → ∃ k, n = k + 1 ∧ D_Ranks_eliminate N k pc lv st h = some r := by
  intro n pc lv st h hf
  unfold B_Ranks_eliminate at hf
  split at hf
  · rename_i hb
    have hb := Nat.eq_of_beq_eq_true hb
    subst hb
    cases n with
    | zero =>
      split at hf
      · cases hf
      · cases hf
    | succ k =>
      refine ⟨k, rfl, ?_⟩
      exact hf
  · skip
    cases hf
theorem s_Ranks_eliminate {l : Launch} {E : EV} {N : Nat} {as : List MV} {h : MH} {r : MH} (hf : w_Ranks_eliminate (f_Ranks_eliminate N) as h = some r) : SndM l E false 0 50 as h none r := by
  unfold w_Ranks_eliminate at hf
  split at hf
  · obtain ⟨m1, m2, m3, m4⟩ := mx_Ranks_eliminate
    refine snd_of (C := C_Ranks_eliminate N) (own := 6) (rz := 0) (lim := 115) rV_eq m2 m4 pl_50 (TB_in _ cw_50 rfl) ⟨(fun _ => ⟨_, _, _, _, _, _, rfl, rfl, by rw [m4]; rfl⟩), (fun z => by rw [m3] at z; cases z)⟩ (fun z => by cases z) KDL_take rfl rfl (fun z => by cases z) (fun z => by cases z) (fun _ => rfl) (by rw [m1]; exact Nat.le_of_ble_eq_true rfl)
      (fun _ _ _ _ z => by cases z)
      (fun _ _ _ _ z => by cases z)
      (fun _ _ _ _ z => by cases z)
      (fun _ _ _ _ z => by cases z)
      (fun p e R s m args below meth c Q n0 F hret => ?_)
    rw [m1] at F hret ⊢
    rw [mc_Ranks_eliminate] at F hret
    exact cuts_s (K := 400) (M := 95) (D := D_Ranks_eliminate N) (B := B_Ranks_eliminate N) F hret (chkT_ok chk_Ranks_eliminate) (hM_Ranks_eliminate N) (hB_Ranks_eliminate N) (hD_Ranks_eliminate N) N 0 _ _ _ hf
  · cases hf
def T_Ranks_of : List (List (Option RW)) := [
  [some (.aload_n 0, 1, [0], 0, 0), some (.aload_n 1, 1, [1], 0, 0), some (.iload_n 2, 1, [2], 0, 0), some (.iload_n 3, 1, [3], 0, 0), some (.invokevirtual 15, 3, [0, 47, 4, 0], 0, 0), none, none, some (.istore 4, 2, [4], 0, 0), none, some (.lconst 1, 1, [], 0, 1), some (.lstore 5, 2, [5], 0, 0), none, some (.iconst 0, 1, [], 0, 0), some (.istore 7, 2, [7], 0, 0), none, some (.iconst 0, 1, [], 0, 0), some (.istore 8, 2, [8], 0, 0), none, some (.iload 8, 2, [8], 0, 0), none, some (.bipush 6, 2, [], 6, 0), none, some (.if_icmp .ge 93, 3, [115], 0, 0), none, none, some (.iload 7, 2, [7], 0, 0), none, some (.iload 4, 2, [4], 0, 0), none, some (.if_icmp .ge 86, 3, [115], 0, 0), none, none],
  [some (.aload_n 0, 1, [0], 0, 0), some (.iload 8, 2, [8], 0, 0), none, some (.iload 7, 2, [7], 0, 0), none, some (.iload 4, 2, [4], 0, 0), none, some (.invokevirtual 19, 3, [0, 48, 4, 0], 0, 0), none, none, some (.istore 9, 2, [9], 0, 0), none, some (.iload 9, 2, [9], 0, 0), none, some (.ifCond .ge 6, 3, [52], 0, 0), none, none, some (.goto 60, 3, [109], 0, 0), none, none, some (.aload_n 0, 1, [0], 0, 0), some (.iload 7, 2, [7], 0, 0), none, some (.iload 9, 2, [9], 0, 0), none, some (.invokevirtual 23, 3, [0, 49, 3, 3], 0, 0), none, none, some (.iload 7, 2, [7], 0, 0), none, some (.iconst 1, 1, [], 1, 0), some (.iadd, 1, [], 0, 0)],
  [some (.istore 10, 2, [10], 0, 0), none, some (.iload 10, 2, [10], 0, 0), none, some (.iload 4, 2, [4], 0, 0), none, some (.if_icmp .ge 21, 3, [91], 0, 0), none, none, some (.aload_n 0, 1, [0], 0, 0), some (.iload 7, 2, [7], 0, 0), none, some (.iload 10, 2, [10], 0, 0), none, some (.iload 8, 2, [8], 0, 0), none, some (.lload 5, 2, [5], 0, 0), none, some (.invokevirtual 27, 3, [0, 50, 5, 3], 0, 0), none, none, some (.iinc 10 1, 3, [10], 1, 0), none, none, some (.goto (-22), 3, [66], 0, 0), none, none, some (.aload_n 0, 1, [0], 0, 0), some (.getfield 9, 3, [6, 0, 2, 2, 48, 1], 0, 0), none, none, some (.iload 7, 2, [7], 0, 0)],
  [none, some (.bipush 6, 2, [], 6, 0), none, some (.imul, 1, [], 0, 0), some (.iload 8, 2, [8], 0, 0), none, some (.iadd, 1, [], 0, 0), some (.laload, 1, [], 0, 0), some (.lstore 5, 2, [5], 0, 0), none, some (.iinc 7 1, 3, [7], 1, 0), none, none, some (.iinc 8 1, 3, [8], 1, 0), none, none, some (.goto (-94), 3, [18], 0, 0), none, none, some (.iload 7, 2, [7], 0, 0), none, some (.ireturn, 1, [], 0, 0)]]
def F_Ranks_of_66 (N : Nat) (bk : (Int32 → Int64 → Int32 → Int32 → MH → Option (Int32 × MH)) × (Int32 → Int64 → Int32 → Int32 → Int32 → MH → Option (Int32 × MH))) (a4 : Int32) (a5 : Int64) (a7 : Int32) (a8 : Int32) (a10 : Int32) (h : MH) : Option (Int32 × MH) :=
  if a4 ≤ a10 then
  (if inB ((a7 * 6) + a8) 48 = true then
  (let v6 : Int64 := gJ h 49 (iN ((a7 * 6) + a8))
  let v7 : Int32 := a7 + 1
  let v8 : Int32 := a8 + 1
  (bk.1) a4 v6 v7 v8 h)
  else none)
  else
  ((f_Ranks_eliminate N a7 a10 a8 a5 h).bind (fun x9 =>
  let v10 : Int32 := a10 + 1
  (bk.2) a4 a5 a7 a8 v10 x9))
def F_Ranks_of_18 (N : Nat) (bk : (Int32 → Int64 → Int32 → Int32 → MH → Option (Int32 × MH)) × (Int32 → Int64 → Int32 → Int32 → Int32 → MH → Option (Int32 × MH))) (a4 : Int32) (a5 : Int64) (a7 : Int32) (a8 : Int32) (h : MH) : Option (Int32 × MH) :=
  if 6 ≤ a8 then
  (some (a7, h))
  else
  (if a4 ≤ a7 then
  (some (a7, h))
  else
  ((f_Ranks_rowWithout0 N a8 a7 a4 h).bind (fun x2 =>
  if 0 ≤ x2.1 then
  ((f_Ranks_swapRows N a7 x2.1 x2.2).bind (fun x3 =>
  let v4 : Int32 := a7 + 1
  F_Ranks_of_66 N bk a4 a5 a7 a8 v4 x3))
  else
  (let v5 : Int32 := a8 + 1
  (bk.1) a4 a5 a7 v5 x2.2))))
def F_Ranks_of_0 (N : Nat) (bk : (Int32 → Int64 → Int32 → Int32 → MH → Option (Int32 × MH)) × (Int32 → Int64 → Int32 → Int32 → Int32 → MH → Option (Int32 × MH))) (r1 : Nat) (a2 : Int32) (a3 : Int32) (h : MH) : Option (Int32 × MH) :=
  (f_Ranks_fill N r1 a2 a3 h).bind (fun x1 =>
  F_Ranks_of_18 N bk x1.1 1 0 0 x1.2)
def L_Ranks_of (N : Nat) : Nat → ((Int32 → Int64 → Int32 → Int32 → MH → Option (Int32 × MH)) × (Int32 → Int64 → Int32 → Int32 → Int32 → MH → Option (Int32 × MH)))
  | 0 => (fun _ _ _ _ _ => none, fun _ _ _ _ _ _ => none)
  | n + 1 => (F_Ranks_of_18 N (L_Ranks_of N n), F_Ranks_of_66 N (L_Ranks_of N n))
def f_Ranks_of (N : Nat) (r1 : Nat) (a2 : Int32) (a3 : Int32) (h : MH) : Option (Int32 × MH) := F_Ranks_of_0 N (L_Ranks_of N N) r1 a2 a3 h
def C_Ranks_of (N : Nat) : MC := (KDL, false, (fun _ => 0), jsB, (fun j => match Nat.beq j 47 with
    | true => w_Ranks_fill (f_Ranks_fill N)
    | false => match Nat.beq j 48 with
    | true => w_Ranks_rowWithout0 (f_Ranks_rowWithout0 N)
    | false => fun _ _ => none), (fun _ _ _ => none), (fun _ _ _ => none), (fun j => match Nat.beq j 49 with
    | true => w_Ranks_swapRows (f_Ranks_swapRows N)
    | false => match Nat.beq j 50 with
    | true => w_Ranks_eliminate (f_Ranks_eliminate N)
    | false => fun _ _ => none))
def D_Ranks_of (N : Nat) (n pc : Nat) (lv : ML) (st : List MV) (h : MH) : Option (Int32 × MH) :=
  match Nat.beq pc 0 with
  | true => (match lk lv 0, lk lv 1, lk lv 2, lk lv 3, st with
    | some (.inr (.inr (0, 6, 48))), some (.inr (.inr (0, 2, r1))), some (.inl a2), some (.inl a3), [] => F_Ranks_of_0 N (L_Ranks_of N n) r1 a2 a3 h
    | _, _, _, _, _ => none)
  | false => match Nat.beq pc 18 with
  | true => (match lk lv 0, lk lv 4, lk lv 5, lk lv 7, lk lv 8, st with
    | some (.inr (.inr (0, 6, 48))), some (.inl a4), some (.inr (.inl a5)), some (.inl a7), some (.inl a8), [] => F_Ranks_of_18 N (L_Ranks_of N n) a4 a5 a7 a8 h
    | _, _, _, _, _, _ => none)
  | false => match Nat.beq pc 66 with
  | true => (match lk lv 0, lk lv 4, lk lv 5, lk lv 7, lk lv 8, lk lv 10, st with
    | some (.inr (.inr (0, 6, 48))), some (.inl a4), some (.inr (.inl a5)), some (.inl a7), some (.inl a8), some (.inl a10), [] => F_Ranks_of_66 N (L_Ranks_of N n) a4 a5 a7 a8 a10 h
    | _, _, _, _, _, _, _ => none)
  | false => none
def B_Ranks_of (N : Nat) (n pc : Nat) (lv : ML) (st : List MV) (h : MH) : Option (Int32 × MH) :=
  match Nat.beq pc 18 with
  | true => (match lk lv 0, lk lv 4, lk lv 5, lk lv 7, lk lv 8, st with
    | some (.inr (.inr (0, 6, 48))), some (.inl a4), some (.inr (.inl a5)), some (.inl a7), some (.inl a8), [] => ((L_Ranks_of N n).1) a4 a5 a7 a8 h
    | _, _, _, _, _, _ => none)
  | false => match Nat.beq pc 66 with
  | true => (match lk lv 0, lk lv 4, lk lv 5, lk lv 7, lk lv 8, lk lv 10, st with
    | some (.inr (.inr (0, 6, 48))), some (.inl a4), some (.inr (.inl a5)), some (.inl a7), some (.inl a8), some (.inl a10), [] => ((L_Ranks_of N n).2) a4 a5 a7 a8 a10 h
    | _, _, _, _, _, _, _ => none)
  | false => none
set_option maxRecDepth 1000000 in
theorem E_Ranks_of_0 (N : Nat) (n : Nat) (r1 : Nat) (a2 : Int32) (a3 : Int32) (h : MH) : seg (C_Ranks_of N) 11 0 rI T_Ranks_of [0, 18, 66] (fun q lv st h => match Nat.ble 1 q with
    | true => D_Ranks_of N n q lv st h
    | false => B_Ranks_of N n q lv st h) 400 true 0 [(0, .inr (.inr (0, 6, 48))), (1, .inr (.inr (0, 2, r1))), (2, .inl a2), (3, .inl a3)] [] h = F_Ranks_of_0 N (L_Ranks_of N n) r1 a2 a3 h := (rfl)
set_option maxRecDepth 1000000 in
theorem E_Ranks_of_18 (N : Nat) (n : Nat) (a4 : Int32) (a5 : Int64) (a7 : Int32) (a8 : Int32) (h : MH) : seg (C_Ranks_of N) 11 0 rI T_Ranks_of [0, 18, 66] (fun q lv st h => match Nat.ble 19 q with
    | true => D_Ranks_of N n q lv st h
    | false => B_Ranks_of N n q lv st h) 400 true 18 [(0, .inr (.inr (0, 6, 48))), (4, .inl a4), (5, .inr (.inl a5)), (7, .inl a7), (8, .inl a8)] [] h = F_Ranks_of_18 N (L_Ranks_of N n) a4 a5 a7 a8 h := (rfl)
set_option maxRecDepth 1000000 in
theorem E_Ranks_of_66 (N : Nat) (n : Nat) (a4 : Int32) (a5 : Int64) (a7 : Int32) (a8 : Int32) (a10 : Int32) (h : MH) : seg (C_Ranks_of N) 11 0 rI T_Ranks_of [0, 18, 66] (fun q lv st h => match Nat.ble 67 q with
    | true => D_Ranks_of N n q lv st h
    | false => B_Ranks_of N n q lv st h) 400 true 66 [(0, .inr (.inr (0, 6, 48))), (4, .inl a4), (5, .inr (.inl a5)), (7, .inl a7), (8, .inl a8), (10, .inl a10)] [] h = F_Ranks_of_66 N (L_Ranks_of N n) a4 a5 a7 a8 a10 h := (rfl)
set_option maxRecDepth 1000000 in
theorem chk_Ranks_of : chkT 6 false prog_8_method_2_code T_Ranks_of = true := by decide +kernel
theorem mc_Ranks_of : mC 46 = prog_8_method_2_code := by rfl
theorem mx_Ranks_of : mL 46 = 11 ∧ mR 46 = some .int ∧ mK 46 = 1 ∧ (mN 46).cls = cN 6 := by decide +kernel
theorem hD_Ranks_of (N : Nat) {r : Int32 × MH} : ∀ n pc lv st h, D_Ranks_of N n pc lv st h = some r → ∃ lv', (∀ q ∈ lv', q ∈ lv) ∧ seg (C_Ranks_of N) 11 0 rI T_Ranks_of [0, 18, 66] (fun q lv st h => match Nat.ble (pc + 1) q with
    | true => D_Ranks_of N n q lv st h
    | false => B_Ranks_of N n q lv st h) 400 true pc lv' st h = some r := by
  intro n pc lv st h hf
  unfold D_Ranks_of at hf
  split at hf
  · rename_i hb
    have hb := Nat.eq_of_beq_eq_true hb
    subst hb
    split at hf
    · rename_i y0 y1 y2 e0 e1 e2 e3
      exact ⟨_, (sub_cons e0 (sub_cons e1 (sub_cons e2 (sub_cons e3 sub_nil)))), (E_Ranks_of_0 N n _ _ _ h).trans hf⟩
    · cases hf
  · skip
    split at hf
    · rename_i hb
      have hb := Nat.eq_of_beq_eq_true hb
      subst hb
      split at hf
      · rename_i y0 y1 y2 y3 e0 e1 e2 e3 e4
        exact ⟨_, (sub_cons e0 (sub_cons e1 (sub_cons e2 (sub_cons e3 (sub_cons e4 sub_nil))))), (E_Ranks_of_18 N n _ _ _ _ h).trans hf⟩
      · cases hf
    · skip
      split at hf
      · rename_i hb
        have hb := Nat.eq_of_beq_eq_true hb
        subst hb
        split at hf
        · rename_i y0 y1 y2 y3 y4 e0 e1 e2 e3 e4 e5
          exact ⟨_, (sub_cons e0 (sub_cons e1 (sub_cons e2 (sub_cons e3 (sub_cons e4 (sub_cons e5 sub_nil)))))), (E_Ranks_of_66 N n _ _ _ _ _ h).trans hf⟩
        · cases hf
      · skip
        cases hf
theorem hM_Ranks_of (N : Nat) {r : Int32 × MH} : ∀ n pc lv st h, D_Ranks_of N n pc lv st h = some r → pc < 118 := by
  intro n pc lv st h hf
  unfold D_Ranks_of at hf
  split at hf
  · rename_i hb
    rw [Nat.eq_of_beq_eq_true hb]
    decide
  · skip
    split at hf
    · rename_i hb
      rw [Nat.eq_of_beq_eq_true hb]
      decide
    · skip
      split at hf
      · rename_i hb
        rw [Nat.eq_of_beq_eq_true hb]
        decide
      · skip
        cases hf
theorem hB_Ranks_of (N : Nat) {r : Int32 × MH} : ∀ n pc lv st h, B_Ranks_of N n pc lv st h = some r → ∃ k, n = k + 1 ∧ D_Ranks_of N k pc lv st h = some r := by
  intro n pc lv st h hf
  unfold B_Ranks_of at hf
  split at hf
  · rename_i hb
    have hb := Nat.eq_of_beq_eq_true hb
    subst hb
    cases n with
    | zero =>
      split at hf
      · cases hf
      · cases hf
    | succ k =>
      refine ⟨k, rfl, ?_⟩
      exact hf
  · skip
    split at hf
    · rename_i hb
      have hb := Nat.eq_of_beq_eq_true hb
      subst hb
      cases n with
      | zero =>
        split at hf
        · cases hf
        · cases hf
      | succ k =>
        refine ⟨k, rfl, ?_⟩
        exact hf
    · skip
      cases hf
theorem s_Ranks_of {l : Launch} {E : EV} {N : Nat} {as : List MV} {h : MH} {r : Int32 × MH} (hf : w_Ranks_of (f_Ranks_of N) as h = some r) : SndM l E false 2 46 as h (some (.inl r.1)) r.2 := by
  unfold w_Ranks_of at hf
  split at hf
  · obtain ⟨m1, m2, m3, m4⟩ := mx_Ranks_of
    refine snd_of (C := C_Ranks_of N) (own := 6) (rz := 0) (lim := 115) rI_eq m2 m4 pl_46 (TB_in _ cw_46 rfl) ⟨(fun _ => ⟨_, _, _, _, _, _, rfl, rfl, by rw [m4]; rfl⟩), (fun z => by rw [m3] at z; cases z)⟩ (fun z => by cases z) KDL_take rfl rfl (fun z => by cases z) (fun z => by cases z) (fun _ => rfl) (by rw [m1]; exact Nat.le_of_ble_eq_true rfl)
      (fun j as h x z => by
      dsimp only [C_Ranks_of] at z
      cases hb : Nat.beq j 47 with
      | true =>
        have hb := Nat.eq_of_beq_eq_true hb
        subst hb
        exact ⟨1, by decide, (fun z => by cases z), s_Ranks_fill z⟩
      | false =>
        rw [hb] at z
        dsimp only at z
        cases hb : Nat.beq j 48 with
        | true =>
          have hb := Nat.eq_of_beq_eq_true hb
          subst hb
          exact ⟨0, by decide, (fun z => by cases z), s_Ranks_rowWithout0 z⟩
        | false =>
          rw [hb] at z
          dsimp only at z
          cases z)
      (fun _ _ _ _ z => by cases z)
      (fun _ _ _ _ z => by cases z)
      (fun j as h x z => by
      dsimp only [C_Ranks_of] at z
      cases hb : Nat.beq j 49 with
      | true =>
        have hb := Nat.eq_of_beq_eq_true hb
        subst hb
        exact ⟨0, by decide, (fun z => by cases z), s_Ranks_swapRows z⟩
      | false =>
        rw [hb] at z
        dsimp only at z
        cases hb : Nat.beq j 50 with
        | true =>
          have hb := Nat.eq_of_beq_eq_true hb
          subst hb
          exact ⟨0, by decide, (fun z => by cases z), s_Ranks_eliminate z⟩
        | false =>
          rw [hb] at z
          dsimp only at z
          cases z)
      (fun p e R s m args below meth c Q n0 F hret => ?_)
    rw [m1] at F hret ⊢
    rw [mc_Ranks_of] at F hret
    exact cuts_s (K := 400) (M := 118) (D := D_Ranks_of N) (B := B_Ranks_of N) F hret (chkT_ok chk_Ranks_of) (hM_Ranks_of N) (hB_Ranks_of N) (hD_Ranks_of N) N 0 _ _ _ hf
  · cases hf
def T_Reader_hasRoom : List (List (Option RW)) := [
  [some (.aload_n 0, 1, [0], 0, 0), some (.getfield 15, 3, [7, 1, 0], 0, 0), none, none, some (.sipush 580, 3, [], 580, 0), none, none, some (.if_icmp .gt 7, 3, [14], 0, 0), none, none, some (.iconst 1, 1, [], 1, 0), some (.goto 4, 3, [15], 0, 0), none, none, some (.iconst 0, 1, [], 0, 0), some (.ireturn, 1, [], 0, 0)]]
def f_Reader_hasRoom (N : Nat) (h : MH) : Option (Int32 × MH) :=
  if 580 < (gI h 3 1) then
  (some (0, h))
  else
  (some (1, h))
def C_Reader_hasRoom (N : Nat) : MC := (KDL, false, (fun _ => 0), jsB, (fun _ _ _ => none), (fun _ _ _ => none), (fun _ _ _ => none), (fun _ _ _ => none))
def D_Reader_hasRoom (N : Nat) (n pc : Nat) (lv : ML) (st : List MV) (h : MH) : Option (Int32 × MH) :=
  match Nat.beq pc 0 with
  | true => (match lk lv 0, st with
    | some (.inr (.inr (0, 7, 3))), [] => f_Reader_hasRoom N h
    | _, _ => none)
  | false => none
set_option maxRecDepth 1000000 in
theorem E_Reader_hasRoom_0 (N : Nat) (n : Nat) (h : MH) : seg (C_Reader_hasRoom N) 1 1 rI T_Reader_hasRoom [0] (fun q lv st h => match Nat.ble 1 q with
    | true => D_Reader_hasRoom N n q lv st h
    | false => none) 400 true 0 [(0, .inr (.inr (0, 7, 3)))] [] h = f_Reader_hasRoom N h := (rfl)
set_option maxRecDepth 1000000 in
theorem chk_Reader_hasRoom : chkT 7 false prog_9_method_2_code T_Reader_hasRoom = true := by decide +kernel
theorem mc_Reader_hasRoom : mC 52 = prog_9_method_2_code := by rfl
theorem mx_Reader_hasRoom : mL 52 = 1 ∧ mR 52 = some .boolean ∧ mK 52 = 1 ∧ (mN 52).cls = cN 7 := by decide +kernel
theorem hD_Reader_hasRoom (N : Nat) {r : Int32 × MH} : ∀ n pc lv st h, D_Reader_hasRoom N n pc lv st h = some r → ∃ lv', (∀ q ∈ lv', q ∈ lv) ∧ seg (C_Reader_hasRoom N) 1 1 rI T_Reader_hasRoom [0] (fun q lv st h => match Nat.ble (pc + 1) q with
    | true => D_Reader_hasRoom N n q lv st h
    | false => none) 400 true pc lv' st h = some r := by
  intro n pc lv st h hf
  unfold D_Reader_hasRoom at hf
  split at hf
  · rename_i hb
    have hb := Nat.eq_of_beq_eq_true hb
    subst hb
    split at hf
    · rename_i e0
      exact ⟨_, (sub_cons e0 sub_nil), (E_Reader_hasRoom_0 N n h).trans hf⟩
    · cases hf
  · skip
    cases hf
theorem hM_Reader_hasRoom (N : Nat) {r : Int32 × MH} : ∀ n pc lv st h, D_Reader_hasRoom N n pc lv st h = some r → pc < 16 := by
  intro n pc lv st h hf
  unfold D_Reader_hasRoom at hf
  split at hf
  · rename_i hb
    rw [Nat.eq_of_beq_eq_true hb]
    decide
  · skip
    cases hf
theorem s_Reader_hasRoom {l : Launch} {E : EV} {N : Nat} {as : List MV} {h : MH} {r : Int32 × MH} (hf : w_Reader_hasRoom (f_Reader_hasRoom N) as h = some r) : SndM l E false 0 52 as h (some (.inl r.1)) r.2 := by
  unfold w_Reader_hasRoom at hf
  split at hf
  · obtain ⟨m1, m2, m3, m4⟩ := mx_Reader_hasRoom
    refine snd_of (C := C_Reader_hasRoom N) (own := 7) (rz := 1) (lim := 115) rI_eq m2 m4 pl_52 (TB_in _ cw_52 rfl) ⟨(fun _ => ⟨_, _, _, _, _, _, rfl, rfl, by rw [m4]; rfl⟩), (fun z => by rw [m3] at z; cases z)⟩ (fun z => by cases z) KDL_take rfl rfl (fun z => by cases z) (fun z => by cases z) (fun _ => rfl) (by rw [m1]; exact Nat.le_of_ble_eq_true rfl)
      (fun _ _ _ _ z => by cases z)
      (fun _ _ _ _ z => by cases z)
      (fun _ _ _ _ z => by cases z)
      (fun _ _ _ _ z => by cases z)
      (fun p e R s m args below meth c Q n0 F hret => ?_)
    rw [m1] at F hret ⊢
    rw [mc_Reader_hasRoom] at F hret
    exact cuts_s (K := 400) (M := 16) (D := D_Reader_hasRoom N) (B := fun _ _ _ _ _ => none) F hret (chkT_ok chk_Reader_hasRoom) (hM_Reader_hasRoom N) (fun _ _ _ _ _ z => by cases z) (hD_Reader_hasRoom N) N 0 _ _ _ hf
  · cases hf
def T_Reader_append : List (List (Option RW)) := [
  [some (.bipush 24, 2, [], 24, 0), none, some (.istore_n 2, 1, [2], 0, 0), some (.iload_n 2, 1, [2], 0, 0), some (.ifCond .lt 42, 3, [46], 0, 0), none, none, some (.aload_n 0, 1, [0], 0, 0), some (.getfield 15, 3, [7, 1, 0], 0, 0), none, none, some (.sipush 600, 3, [], 600, 0), none, none, some (.if_icmp .ge 32, 3, [46], 0, 0), none, none, some (.aload_n 0, 1, [0], 0, 0), some (.getfield 9, 3, [7, 0, 2, 3, 600, 1], 0, 0), none, none, some (.aload_n 0, 1, [0], 0, 0), some (.getfield 15, 3, [7, 1, 0], 0, 0), none, none, some (.iload_n 1, 1, [1], 0, 0), some (.iload_n 2, 1, [2], 0, 0), some (.ishr, 1, [], 0, 0), some (.i2b, 1, [], 0, 0), some (.bastore, 1, [], 0, 0), some (.aload_n 0, 1, [0], 0, 0), some (.dup, 1, [], 0, 0)],
  [some (.getfield 15, 3, [7, 1, 0], 0, 0), none, none, some (.iconst 1, 1, [], 1, 0), some (.iadd, 1, [], 0, 0), some (.putfield 15, 3, [7, 1, 0], 0, 0), none, none, some (.iinc 2 (-8), 3, [2], (-8), 0), none, none, some (.goto (-40), 3, [3], 0, 0), none, none, some (.return_, 1, [], 0, 0)]]
def F_Reader_append_3 (N : Nat) (bk : (Int32 → Int32 → MH → Option (MH))) (a1 : Int32) (a2 : Int32) (h : MH) : Option (MH) :=
  if a2 < 0 then
  (some h)
  else
  (if 600 ≤ (gI h 3 1) then
  (some h)
  else
  (if inB (gI h 3 1) 600 = true then
  (let h1 : MH := sI h 4 (iN (gI h 3 1)) (((a1 >>> (a2 &&& 31))).toInt8.toInt32).toInt8.toInt32
  let h2 : MH := sI h1 3 1 ((gI h1 3 1) + 1)
  let v3 : Int32 := a2 + (-8)
  bk a1 v3 h2)
  else none))
def F_Reader_append_0 (N : Nat) (bk : (Int32 → Int32 → MH → Option (MH))) (a1 : Int32) (h : MH) : Option (MH) :=
  F_Reader_append_3 N bk a1 24 h
def L_Reader_append (N : Nat) : Nat → (Int32 → Int32 → MH → Option (MH))
  | 0 => fun _ _ _ => none
  | n + 1 => F_Reader_append_3 N (L_Reader_append N n)
def f_Reader_append (N : Nat) (a1 : Int32) (h : MH) : Option (MH) := F_Reader_append_0 N (L_Reader_append N N) a1 h
def C_Reader_append (N : Nat) : MC := (KDL, false, (fun _ => 0), jsB, (fun _ _ _ => none), (fun _ _ _ => none), (fun _ _ _ => none), (fun _ _ _ => none))
def D_Reader_append (N : Nat) (n pc : Nat) (lv : ML) (st : List MV) (h : MH) : Option (MH) :=
  match Nat.beq pc 0 with
  | true => (match lk lv 0, lk lv 1, st with
    | some (.inr (.inr (0, 7, 3))), some (.inl a1), [] => F_Reader_append_0 N (L_Reader_append N n) a1 h
    | _, _, _ => none)
  | false => match Nat.beq pc 3 with
  | true => (match lk lv 0, lk lv 1, lk lv 2, st with
    | some (.inr (.inr (0, 7, 3))), some (.inl a1), some (.inl a2), [] => F_Reader_append_3 N (L_Reader_append N n) a1 a2 h
    | _, _, _, _ => none)
  | false => none
def B_Reader_append (N : Nat) (n pc : Nat) (lv : ML) (st : List MV) (h : MH) : Option (MH) :=
  match Nat.beq pc 3 with
  | true => (match lk lv 0, lk lv 1, lk lv 2, st with
    | some (.inr (.inr (0, 7, 3))), some (.inl a1), some (.inl a2), [] => ((L_Reader_append N n)) a1 a2 h
    | _, _, _, _ => none)
  | false => none
set_option maxRecDepth 1000000 in
theorem E_Reader_append_0 (N : Nat) (n : Nat) (a1 : Int32) (h : MH) : seg (C_Reader_append N) 3 0 rV T_Reader_append [0, 3] (fun q lv st h => match Nat.ble 1 q with
    | true => D_Reader_append N n q lv st h
    | false => B_Reader_append N n q lv st h) 400 true 0 [(0, .inr (.inr (0, 7, 3))), (1, .inl a1)] [] h = F_Reader_append_0 N (L_Reader_append N n) a1 h := (rfl)
set_option maxRecDepth 1000000 in
theorem E_Reader_append_3 (N : Nat) (n : Nat) (a1 : Int32) (a2 : Int32) (h : MH) : seg (C_Reader_append N) 3 0 rV T_Reader_append [0, 3] (fun q lv st h => match Nat.ble 4 q with
    | true => D_Reader_append N n q lv st h
    | false => B_Reader_append N n q lv st h) 400 true 3 [(0, .inr (.inr (0, 7, 3))), (1, .inl a1), (2, .inl a2)] [] h = F_Reader_append_3 N (L_Reader_append N n) a1 a2 h := (rfl)
set_option maxRecDepth 1000000 in
theorem chk_Reader_append : chkT 7 false prog_9_method_3_code T_Reader_append = true := by decide +kernel
theorem mc_Reader_append : mC 53 = prog_9_method_3_code := by rfl
theorem mx_Reader_append : mL 53 = 3 ∧ mR 53 = none ∧ mK 53 = 1 ∧ (mN 53).cls = cN 7 := by decide +kernel
theorem hD_Reader_append (N : Nat) {r : MH} : ∀ n pc lv st h, D_Reader_append N n pc lv st h = some r → ∃ lv', (∀ q ∈ lv', q ∈ lv) ∧ seg (C_Reader_append N) 3 0 rV T_Reader_append [0, 3] (fun q lv st h => match Nat.ble (pc + 1) q with
    | true => D_Reader_append N n q lv st h
    | false => B_Reader_append N n q lv st h) 400 true pc lv' st h = some r := by
  intro n pc lv st h hf
  unfold D_Reader_append at hf
  split at hf
  · rename_i hb
    have hb := Nat.eq_of_beq_eq_true hb
    subst hb
    split at hf
    · rename_i y0 e0 e1
      exact ⟨_, (sub_cons e0 (sub_cons e1 sub_nil)), (E_Reader_append_0 N n _ h).trans hf⟩
    · cases hf
  · skip
    split at hf
    · rename_i hb
      have hb := Nat.eq_of_beq_eq_true hb
      subst hb
      split at hf
      · rename_i y0 y1 e0 e1 e2
        exact ⟨_, (sub_cons e0 (sub_cons e1 (sub_cons e2 sub_nil))), (E_Reader_append_3 N n _ _ h).trans hf⟩
      · cases hf
    · skip
      cases hf
theorem hM_Reader_append (N : Nat) {r : MH} : ∀ n pc lv st h, D_Reader_append N n pc lv st h = some r → pc < 47 := by
  intro n pc lv st h hf
  unfold D_Reader_append at hf
  split at hf
  · rename_i hb
    rw [Nat.eq_of_beq_eq_true hb]
    decide
  · skip
    split at hf
    · rename_i hb
      rw [Nat.eq_of_beq_eq_true hb]
      decide
    · skip
      cases hf
theorem hB_Reader_append (N : Nat) {r : MH} : ∀ n pc lv st h, B_Reader_append N n pc lv st h = some r → ∃ k, n = k + 1 ∧ D_Reader_append N k pc lv st h = some r := by
  intro n pc lv st h hf
  unfold B_Reader_append at hf
  split at hf
  · rename_i hb
    have hb := Nat.eq_of_beq_eq_true hb
    subst hb
    cases n with
    | zero =>
      split at hf
      · cases hf
      · cases hf
    | succ k =>
      refine ⟨k, rfl, ?_⟩
      exact hf
  · skip
    cases hf
theorem s_Reader_append {l : Launch} {E : EV} {N : Nat} {as : List MV} {h : MH} {r : MH} (hf : w_Reader_append (f_Reader_append N) as h = some r) : SndM l E false 0 53 as h none r := by
  unfold w_Reader_append at hf
  split at hf
  · obtain ⟨m1, m2, m3, m4⟩ := mx_Reader_append
    refine snd_of (C := C_Reader_append N) (own := 7) (rz := 0) (lim := 115) rV_eq m2 m4 pl_53 (TB_in _ cw_53 rfl) ⟨(fun _ => ⟨_, _, _, _, _, _, rfl, rfl, by rw [m4]; rfl⟩), (fun z => by rw [m3] at z; cases z)⟩ (fun z => by cases z) KDL_take rfl rfl (fun z => by cases z) (fun z => by cases z) (fun _ => rfl) (by rw [m1]; exact Nat.le_of_ble_eq_true rfl)
      (fun _ _ _ _ z => by cases z)
      (fun _ _ _ _ z => by cases z)
      (fun _ _ _ _ z => by cases z)
      (fun _ _ _ _ z => by cases z)
      (fun p e R s m args below meth c Q n0 F hret => ?_)
    rw [m1] at F hret ⊢
    rw [mc_Reader_append] at F hret
    exact cuts_s (K := 400) (M := 47) (D := D_Reader_append N) (B := B_Reader_append N) F hret (chkT_ok chk_Reader_append) (hM_Reader_append N) (hB_Reader_append N) (hD_Reader_append N) N 0 _ _ _ hf
  · cases hf
def T_Reader_trade : List (List (Option RW)) := [
  [some (.aload_n 0, 1, [0], 0, 0), some (.getfield 43, 3, [7, 9, 3, 0, 2], 0, 0), none, none, some (.astore_n 2, 1, [2], 0, 0), some (.aload_n 0, 1, [0], 0, 0), some (.aload_n 1, 1, [1], 0, 0), some (.putfield 43, 3, [7, 9, 3, 0, 2], 0, 0), none, none, some (.aload_n 2, 1, [2], 0, 0), some (.areturn, 1, [], 0, 0)]]
def f_Reader_trade (N : Nat) (r1 : Nat) (h : MH) : Option (Nat × MH) :=
  let h1 : MH := sR h 3 9 r1
  some (gR h 3 9, h1)
def C_Reader_trade (N : Nat) : MC := (KDL, false, (fun _ => 0), jsB, (fun _ _ _ => none), (fun _ _ _ => none), (fun _ _ _ => none), (fun _ _ _ => none))
def D_Reader_trade (N : Nat) (n pc : Nat) (lv : ML) (st : List MV) (h : MH) : Option (Nat × MH) :=
  match Nat.beq pc 0 with
  | true => (match lk lv 0, lk lv 1, st with
    | some (.inr (.inr (0, 7, 3))), some (.inr (.inr (0, 2, r1))), [] => f_Reader_trade N r1 h
    | _, _, _ => none)
  | false => none
set_option maxRecDepth 1000000 in
theorem E_Reader_trade_0 (N : Nat) (n : Nat) (r1 : Nat) (h : MH) : seg (C_Reader_trade N) 3 0 rR T_Reader_trade [0] (fun q lv st h => match Nat.ble 1 q with
    | true => D_Reader_trade N n q lv st h
    | false => none) 400 true 0 [(0, .inr (.inr (0, 7, 3))), (1, .inr (.inr (0, 2, r1)))] [] h = f_Reader_trade N r1 h := (rfl)
set_option maxRecDepth 1000000 in
theorem chk_Reader_trade : chkT 7 false prog_9_method_4_code T_Reader_trade = true := by decide +kernel
theorem mc_Reader_trade : mC 54 = prog_9_method_4_code := by rfl
theorem mx_Reader_trade : mL 54 = 3 ∧ mR 54 = some (.object "SlipSheets$Land") ∧ mK 54 = 1 ∧ (mN 54).cls = cN 7 := by decide +kernel
theorem hD_Reader_trade (N : Nat) {r : Nat × MH} : ∀ n pc lv st h, D_Reader_trade N n pc lv st h = some r → ∃ lv', (∀ q ∈ lv', q ∈ lv) ∧ seg (C_Reader_trade N) 3 0 rR T_Reader_trade [0] (fun q lv st h => match Nat.ble (pc + 1) q with
    | true => D_Reader_trade N n q lv st h
    | false => none) 400 true pc lv' st h = some r := by
  intro n pc lv st h hf
  unfold D_Reader_trade at hf
  split at hf
  · rename_i hb
    have hb := Nat.eq_of_beq_eq_true hb
    subst hb
    split at hf
    · rename_i y0 e0 e1
      exact ⟨_, (sub_cons e0 (sub_cons e1 sub_nil)), (E_Reader_trade_0 N n _ h).trans hf⟩
    · cases hf
  · skip
    cases hf
theorem hM_Reader_trade (N : Nat) {r : Nat × MH} : ∀ n pc lv st h, D_Reader_trade N n pc lv st h = some r → pc < 12 := by
  intro n pc lv st h hf
  unfold D_Reader_trade at hf
  split at hf
  · rename_i hb
    rw [Nat.eq_of_beq_eq_true hb]
    decide
  · skip
    cases hf
theorem s_Reader_trade {l : Launch} {E : EV} {N : Nat} {as : List MV} {h : MH} {r : Nat × MH} (hf : w_Reader_trade (f_Reader_trade N) as h = some r) : SndM l E false 0 54 as h (some (.inr (.inr (0, 2, r.1)))) r.2 := by
  unfold w_Reader_trade at hf
  split at hf
  · obtain ⟨m1, m2, m3, m4⟩ := mx_Reader_trade
    refine snd_of (C := C_Reader_trade N) (own := 7) (rz := 0) (lim := 115) rR_eq ⟨_, m2⟩ m4 pl_54 (TB_in _ cw_54 rfl) ⟨(fun _ => ⟨_, _, _, _, _, _, rfl, rfl, by rw [m4]; rfl⟩), (fun z => by rw [m3] at z; cases z)⟩ (fun z => by cases z) KDL_take rfl rfl (fun z => by cases z) (fun z => by cases z) (fun _ => rfl) (by rw [m1]; exact Nat.le_of_ble_eq_true rfl)
      (fun _ _ _ _ z => by cases z)
      (fun _ _ _ _ z => by cases z)
      (fun _ _ _ _ z => by cases z)
      (fun _ _ _ _ z => by cases z)
      (fun p e R s m args below meth c Q n0 F hret => ?_)
    rw [m1] at F hret ⊢
    rw [mc_Reader_trade] at F hret
    exact cuts_s (K := 400) (M := 12) (D := D_Reader_trade N) (B := fun _ _ _ _ _ => none) F hret (chkT_ok chk_Reader_trade) (hM_Reader_trade N) (fun _ _ _ _ _ z => by cases z) (hD_Reader_trade N) N 0 _ _ _ hf
  · cases hf
def T_Reader_fail : List (List (Option RW)) := [
  [some (.aload_n 0, 1, [0], 0, 0), some (.getfield 34, 3, [7, 7, 0], 0, 0), none, none, some (.ifCond .ne 13, 3, [17], 0, 0), none, none, some (.aload_n 0, 1, [0], 0, 0), some (.iload_n 1, 1, [1], 0, 0), some (.putfield 34, 3, [7, 7, 0], 0, 0), none, none, some (.aload_n 0, 1, [0], 0, 0), some (.iload_n 2, 1, [2], 0, 0), some (.putfield 37, 3, [7, 8, 0], 0, 0), none, none, some (.iconst 0, 1, [], 0, 0), some (.ireturn, 1, [], 0, 0)]]
def f_Reader_fail (N : Nat) (a1 : Int32) (a2 : Int32) (h : MH) : Option (Int32 × MH) :=
  if (gI h 3 7) = 0 then
  (let h1 : MH := sI h 3 7 a1
  let h2 : MH := sI h1 3 8 a2
  some (0, h2))
  else
  (some (0, h))
def C_Reader_fail (N : Nat) : MC := (KDL, false, (fun _ => 0), jsB, (fun _ _ _ => none), (fun _ _ _ => none), (fun _ _ _ => none), (fun _ _ _ => none))
def D_Reader_fail (N : Nat) (n pc : Nat) (lv : ML) (st : List MV) (h : MH) : Option (Int32 × MH) :=
  match Nat.beq pc 0 with
  | true => (match lk lv 0, lk lv 1, lk lv 2, st with
    | some (.inr (.inr (0, 7, 3))), some (.inl a1), some (.inl a2), [] => f_Reader_fail N a1 a2 h
    | _, _, _, _ => none)
  | false => none
set_option maxRecDepth 1000000 in
theorem E_Reader_fail_0 (N : Nat) (n : Nat) (a1 : Int32) (a2 : Int32) (h : MH) : seg (C_Reader_fail N) 3 1 rI T_Reader_fail [0] (fun q lv st h => match Nat.ble 1 q with
    | true => D_Reader_fail N n q lv st h
    | false => none) 400 true 0 [(0, .inr (.inr (0, 7, 3))), (1, .inl a1), (2, .inl a2)] [] h = f_Reader_fail N a1 a2 h := (rfl)
set_option maxRecDepth 1000000 in
theorem chk_Reader_fail : chkT 7 false prog_9_method_6_code T_Reader_fail = true := by decide +kernel
theorem mc_Reader_fail : mC 56 = prog_9_method_6_code := by rfl
theorem mx_Reader_fail : mL 56 = 3 ∧ mR 56 = some .boolean ∧ mK 56 = 1 ∧ (mN 56).cls = cN 7 := by decide +kernel
theorem hD_Reader_fail (N : Nat) {r : Int32 × MH} : ∀ n pc lv st h, D_Reader_fail N n pc lv st h = some r → ∃ lv', (∀ q ∈ lv', q ∈ lv) ∧ seg (C_Reader_fail N) 3 1 rI T_Reader_fail [0] (fun q lv st h => match Nat.ble (pc + 1) q with
    | true => D_Reader_fail N n q lv st h
    | false => none) 400 true pc lv' st h = some r := by
  intro n pc lv st h hf
  unfold D_Reader_fail at hf
  split at hf
  · rename_i hb
    have hb := Nat.eq_of_beq_eq_true hb
    subst hb
    split at hf
    · rename_i y0 y1 e0 e1 e2
      exact ⟨_, (sub_cons e0 (sub_cons e1 (sub_cons e2 sub_nil))), (E_Reader_fail_0 N n _ _ h).trans hf⟩
    · cases hf
  · skip
    cases hf
theorem hM_Reader_fail (N : Nat) {r : Int32 × MH} : ∀ n pc lv st h, D_Reader_fail N n pc lv st h = some r → pc < 19 := by
  intro n pc lv st h hf
  unfold D_Reader_fail at hf
  split at hf
  · rename_i hb
    rw [Nat.eq_of_beq_eq_true hb]
    decide
  · skip
    cases hf
theorem s_Reader_fail {l : Launch} {E : EV} {N : Nat} {as : List MV} {h : MH} {r : Int32 × MH} (hf : w_Reader_fail (f_Reader_fail N) as h = some r) : SndM l E false 0 56 as h (some (.inl r.1)) r.2 := by
  unfold w_Reader_fail at hf
  split at hf
  · obtain ⟨m1, m2, m3, m4⟩ := mx_Reader_fail
    refine snd_of (C := C_Reader_fail N) (own := 7) (rz := 1) (lim := 115) rI_eq m2 m4 pl_56 (TB_in _ cw_56 rfl) ⟨(fun _ => ⟨_, _, _, _, _, _, rfl, rfl, by rw [m4]; rfl⟩), (fun z => by rw [m3] at z; cases z)⟩ (fun z => by cases z) KDL_take rfl rfl (fun z => by cases z) (fun z => by cases z) (fun _ => rfl) (by rw [m1]; exact Nat.le_of_ble_eq_true rfl)
      (fun _ _ _ _ z => by cases z)
      (fun _ _ _ _ z => by cases z)
      (fun _ _ _ _ z => by cases z)
      (fun _ _ _ _ z => by cases z)
      (fun p e R s m args below meth c Q n0 F hret => ?_)
    rw [m1] at F hret ⊢
    rw [mc_Reader_fail] at F hret
    exact cuts_s (K := 400) (M := 19) (D := D_Reader_fail N) (B := fun _ _ _ _ _ => none) F hret (chkT_ok chk_Reader_fail) (hM_Reader_fail N) (fun _ _ _ _ _ z => by cases z) (hD_Reader_fail N) N 0 _ _ _ hf
  · cases hf
def T_Reader_isDigit : List (List (Option RW)) := [
  [some (.iload_n 0, 1, [0], 0, 0), some (.bipush 48, 2, [], 48, 0), none, some (.if_icmp .lt 13, 3, [16], 0, 0), none, none, some (.iload_n 0, 1, [0], 0, 0), some (.bipush 57, 2, [], 57, 0), none, some (.if_icmp .gt 7, 3, [16], 0, 0), none, none, some (.iconst 1, 1, [], 1, 0), some (.goto 4, 3, [17], 0, 0), none, none, some (.iconst 0, 1, [], 0, 0), some (.ireturn, 1, [], 0, 0)]]
def f_Reader_isDigit (N : Nat) (a0 : Int32) (h : MH) : Option (Int32 × MH) :=
  if a0 < 48 then
  (some (0, h))
  else
  (if 57 < a0 then
  (some (0, h))
  else
  (some (1, h)))
def C_Reader_isDigit (N : Nat) : MC := (KDL, false, (fun _ => 0), jsB, (fun _ _ _ => none), (fun _ _ _ => none), (fun _ _ _ => none), (fun _ _ _ => none))
def D_Reader_isDigit (N : Nat) (n pc : Nat) (lv : ML) (st : List MV) (h : MH) : Option (Int32 × MH) :=
  match Nat.beq pc 0 with
  | true => (match lk lv 0, st with
    | some (.inl a0), [] => f_Reader_isDigit N a0 h
    | _, _ => none)
  | false => none
set_option maxRecDepth 1000000 in
theorem E_Reader_isDigit_0 (N : Nat) (n : Nat) (a0 : Int32) (h : MH) : seg (C_Reader_isDigit N) 1 1 rI T_Reader_isDigit [0] (fun q lv st h => match Nat.ble 1 q with
    | true => D_Reader_isDigit N n q lv st h
    | false => none) 400 true 0 [(0, .inl a0)] [] h = f_Reader_isDigit N a0 h := (rfl)
set_option maxRecDepth 1000000 in
theorem chk_Reader_isDigit : chkT 7 false prog_9_method_10_code T_Reader_isDigit = true := by decide +kernel
theorem mc_Reader_isDigit : mC 60 = prog_9_method_10_code := by rfl
theorem mx_Reader_isDigit : mL 60 = 1 ∧ mR 60 = some .boolean ∧ mK 60 = 0 ∧ (mN 60).cls = cN 7 := by decide +kernel
theorem hD_Reader_isDigit (N : Nat) {r : Int32 × MH} : ∀ n pc lv st h, D_Reader_isDigit N n pc lv st h = some r → ∃ lv', (∀ q ∈ lv', q ∈ lv) ∧ seg (C_Reader_isDigit N) 1 1 rI T_Reader_isDigit [0] (fun q lv st h => match Nat.ble (pc + 1) q with
    | true => D_Reader_isDigit N n q lv st h
    | false => none) 400 true pc lv' st h = some r := by
  intro n pc lv st h hf
  unfold D_Reader_isDigit at hf
  split at hf
  · rename_i hb
    have hb := Nat.eq_of_beq_eq_true hb
    subst hb
    split at hf
    · rename_i y0 e0
      exact ⟨_, (sub_cons e0 sub_nil), (E_Reader_isDigit_0 N n _ h).trans hf⟩
    · cases hf
  · skip
    cases hf
theorem hM_Reader_isDigit (N : Nat) {r : Int32 × MH} : ∀ n pc lv st h, D_Reader_isDigit N n pc lv st h = some r → pc < 18 := by
  intro n pc lv st h hf
  unfold D_Reader_isDigit at hf
  split at hf
  · rename_i hb
    rw [Nat.eq_of_beq_eq_true hb]
    decide
  · skip
    cases hf
theorem s_Reader_isDigit {l : Launch} {E : EV} {N : Nat} {as : List MV} {h : MH} {r : Int32 × MH} (hf : w_Reader_isDigit (f_Reader_isDigit N) as h = some r) : SndM l E false 0 60 as h (some (.inl r.1)) r.2 := by
  unfold w_Reader_isDigit at hf
  split at hf
  · obtain ⟨m1, m2, m3, m4⟩ := mx_Reader_isDigit
    refine snd_of (C := C_Reader_isDigit N) (own := 7) (rz := 1) (lim := 115) rI_eq m2 m4 pl_60 (TB_in _ cw_60 rfl) ⟨(fun z => by rw [m3] at z; cases z), (fun z => by rw [m3] at z; cases z)⟩ (fun z => by cases z) KDL_take rfl rfl (fun z => by cases z) (fun z => by cases z) (fun _ => rfl) (by rw [m1]; exact Nat.le_of_ble_eq_true rfl)
      (fun _ _ _ _ z => by cases z)
      (fun _ _ _ _ z => by cases z)
      (fun _ _ _ _ z => by cases z)
      (fun _ _ _ _ z => by cases z)
      (fun p e R s m args below meth c Q n0 F hret => ?_)
    rw [m1] at F hret ⊢
    rw [mc_Reader_isDigit] at F hret
    exact cuts_s (K := 400) (M := 18) (D := D_Reader_isDigit N) (B := fun _ _ _ _ _ => none) F hret (chkT_ok chk_Reader_isDigit) (hM_Reader_isDigit N) (fun _ _ _ _ _ z => by cases z) (hD_Reader_isDigit N) N 0 _ _ _ hf
  · cases hf
def T_Reader_scanNumber : List (List (Option RW)) := [
  [some (.aload_n 0, 1, [0], 0, 0), some (.iconst 2, 1, [], 2, 0), some (.putfield 22, 3, [7, 3, 0], 0, 0), none, none, some (.aload_n 0, 1, [0], 0, 0), some (.iconst 0, 1, [], 0, 0), some (.putfield 31, 3, [7, 6, 0], 0, 0), none, none, some (.aload_n 0, 1, [0], 0, 0), some (.getfield 28, 3, [7, 5, 0], 0, 0), none, none, some (.aload_n 0, 1, [0], 0, 0), some (.getfield 19, 3, [7, 2, 0], 0, 0), none, none, some (.if_icmp .ge 68, 3, [86], 0, 0), none, none, some (.aload_n 0, 1, [0], 0, 0), some (.getfield 9, 3, [7, 0, 2, 3, 600, 1], 0, 0), none, none, some (.aload_n 0, 1, [0], 0, 0), some (.getfield 28, 3, [7, 5, 0], 0, 0), none, none, some (.baload, 1, [], 0, 0), some (.invokestatic 76, 3, [2, 60, 1, 0], 0, 0), none],
  [none, some (.ifCond .eq 53, 3, [86], 0, 0), none, none, some (.aload_n 0, 1, [0], 0, 0), some (.getfield 28, 3, [7, 5, 0], 0, 0), none, none, some (.aload_n 0, 1, [0], 0, 0), some (.getfield 25, 3, [7, 4, 0], 0, 0), none, none, some (.isub, 1, [], 0, 0), some (.iconst 4, 1, [], 4, 0), some (.if_icmp .ge 27, 3, [73], 0, 0), none, none, some (.aload_n 0, 1, [0], 0, 0), some (.aload_n 0, 1, [0], 0, 0), some (.getfield 31, 3, [7, 6, 0], 0, 0), none, none, some (.bipush 10, 2, [], 10, 0), none, some (.imul, 1, [], 0, 0), some (.aload_n 0, 1, [0], 0, 0), some (.getfield 9, 3, [7, 0, 2, 3, 600, 1], 0, 0), none, none, some (.aload_n 0, 1, [0], 0, 0), some (.getfield 28, 3, [7, 5, 0], 0, 0), none],
  [none, some (.baload, 1, [], 0, 0), some (.iadd, 1, [], 0, 0), some (.bipush 48, 2, [], 48, 0), none, some (.isub, 1, [], 0, 0), some (.putfield 31, 3, [7, 6, 0], 0, 0), none, none, some (.aload_n 0, 1, [0], 0, 0), some (.dup, 1, [], 0, 0), some (.getfield 28, 3, [7, 5, 0], 0, 0), none, none, some (.iconst 1, 1, [], 1, 0), some (.iadd, 1, [], 0, 0), some (.putfield 28, 3, [7, 5, 0], 0, 0), none, none, some (.goto (-73), 3, [10], 0, 0), none, none, some (.aload_n 0, 1, [0], 0, 0), some (.getfield 28, 3, [7, 5, 0], 0, 0), none, none, some (.aload_n 0, 1, [0], 0, 0), some (.getfield 25, 3, [7, 4, 0], 0, 0), none, none, some (.isub, 1, [], 0, 0), some (.iconst 4, 1, [], 4, 0)],
  [some (.if_icmp .le 18, 3, [114], 0, 0), none, none, some (.aload_n 0, 1, [0], 0, 0), some (.iconst 4, 1, [], 4, 0), some (.putfield 22, 3, [7, 3, 0], 0, 0), none, none, some (.aload_n 0, 1, [0], 0, 0), some (.iconst 1, 1, [], 1, 0), some (.aload_n 0, 1, [0], 0, 0), some (.getfield 25, 3, [7, 4, 0], 0, 0), none, none, some (.invokevirtual 85, 3, [0, 56, 3, 0], 0, 0), none, none, some (.pop, 1, [], 0, 0), some (.return_, 1, [], 0, 0)]]
def F_Reader_scanNumber_86 (N : Nat) (bk : (MH → Option (MH))) (h : MH) : Option (MH) :=
  if ((gI h 3 5) - (gI h 3 4)) ≤ 4 then
  (some h)
  else
  (let h7 : MH := sI h 3 3 4
  (f_Reader_fail N 1 (gI h7 3 4) h7).bind (fun x8 =>
  some x8.2))
def F_Reader_scanNumber_10 (N : Nat) (bk : (MH → Option (MH))) (h : MH) : Option (MH) :=
  if (gI h 3 2) ≤ (gI h 3 5) then
  (F_Reader_scanNumber_86 N bk h)
  else
  (if inB (gI h 3 5) 600 = true then
  ((f_Reader_isDigit N (gI h 4 (iN (gI h 3 5))) h).bind (fun x3 =>
  if x3.1 = 0 then
  (F_Reader_scanNumber_86 N bk x3.2)
  else
  (if 4 ≤ ((gI x3.2 3 5) - (gI x3.2 3 4)) then
  (let h4 : MH := sI x3.2 3 5 ((gI x3.2 3 5) + 1)
  bk h4)
  else
  (if inB (gI x3.2 3 5) 600 = true then
  (let h5 : MH := sI x3.2 3 6 ((((gI x3.2 3 6) * 10) + (gI x3.2 4 (iN (gI x3.2 3 5)))) - 48)
  let h6 : MH := sI h5 3 5 ((gI h5 3 5) + 1)
  bk h6)
  else none))))
  else none)
def F_Reader_scanNumber_0 (N : Nat) (bk : (MH → Option (MH))) (h : MH) : Option (MH) :=
  let h1 : MH := sI h 3 3 2
  let h2 : MH := sI h1 3 6 0
  F_Reader_scanNumber_10 N bk h2
def L_Reader_scanNumber (N : Nat) : Nat → (MH → Option (MH))
  | 0 => fun _ => none
  | n + 1 => F_Reader_scanNumber_10 N (L_Reader_scanNumber N n)
def f_Reader_scanNumber (N : Nat) (h : MH) : Option (MH) := F_Reader_scanNumber_0 N (L_Reader_scanNumber N N) h
def C_Reader_scanNumber (N : Nat) : MC := (KDL, false, (fun _ => 0), jsB, (fun j => match Nat.beq j 56 with
    | true => w_Reader_fail (f_Reader_fail N)
    | false => match Nat.beq j 60 with
    | true => w_Reader_isDigit (f_Reader_isDigit N)
    | false => fun _ _ => none), (fun _ _ _ => none), (fun _ _ _ => none), (fun _ _ _ => none))
def D_Reader_scanNumber (N : Nat) (n pc : Nat) (lv : ML) (st : List MV) (h : MH) : Option (MH) :=
  match Nat.beq pc 0 with
  | true => (match lk lv 0, st with
    | some (.inr (.inr (0, 7, 3))), [] => F_Reader_scanNumber_0 N (L_Reader_scanNumber N n) h
    | _, _ => none)
  | false => match Nat.beq pc 10 with
  | true => (match lk lv 0, st with
    | some (.inr (.inr (0, 7, 3))), [] => F_Reader_scanNumber_10 N (L_Reader_scanNumber N n) h
    | _, _ => none)
  | false => match Nat.beq pc 86 with
  | true => (match lk lv 0, st with
    | some (.inr (.inr (0, 7, 3))), [] => F_Reader_scanNumber_86 N (L_Reader_scanNumber N n) h
    | _, _ => none)
  | false => none
def B_Reader_scanNumber (N : Nat) (n pc : Nat) (lv : ML) (st : List MV) (h : MH) : Option (MH) :=
  match Nat.beq pc 10 with
  | true => (match lk lv 0, st with
    | some (.inr (.inr (0, 7, 3))), [] => ((L_Reader_scanNumber N n)) h
    | _, _ => none)
  | false => none
set_option maxRecDepth 1000000 in
theorem E_Reader_scanNumber_0 (N : Nat) (n : Nat) (h : MH) : seg (C_Reader_scanNumber N) 1 0 rV T_Reader_scanNumber [0, 10, 86] (fun q lv st h => match Nat.ble 1 q with
    | true => D_Reader_scanNumber N n q lv st h
    | false => B_Reader_scanNumber N n q lv st h) 400 true 0 [(0, .inr (.inr (0, 7, 3)))] [] h = F_Reader_scanNumber_0 N (L_Reader_scanNumber N n) h := (rfl)
set_option maxRecDepth 1000000 in
theorem E_Reader_scanNumber_10 (N : Nat) (n : Nat) (h : MH) : seg (C_Reader_scanNumber N) 1 0 rV T_Reader_scanNumber [0, 10, 86] (fun q lv st h => match Nat.ble 11 q with
    | true => D_Reader_scanNumber N n q lv st h
    | false => B_Reader_scanNumber N n q lv st h) 400 true 10 [(0, .inr (.inr (0, 7, 3)))] [] h = F_Reader_scanNumber_10 N (L_Reader_scanNumber N n) h := (rfl)
set_option maxRecDepth 1000000 in
theorem E_Reader_scanNumber_86 (N : Nat) (n : Nat) (h : MH) : seg (C_Reader_scanNumber N) 1 0 rV T_Reader_scanNumber [0, 10, 86] (fun q lv st h => match Nat.ble 87 q with
    | true => D_Reader_scanNumber N n q lv st h
    | false => B_Reader_scanNumber N n q lv st h) 400 true 86 [(0, .inr (.inr (0, 7, 3)))] [] h = F_Reader_scanNumber_86 N (L_Reader_scanNumber N n) h := (rfl)
set_option maxRecDepth 1000000 in
theorem chk_Reader_scanNumber : chkT 7 false prog_9_method_8_code T_Reader_scanNumber = true := by decide +kernel
theorem mc_Reader_scanNumber : mC 58 = prog_9_method_8_code := by rfl
theorem mx_Reader_scanNumber : mL 58 = 1 ∧ mR 58 = none ∧ mK 58 = 1 ∧ (mN 58).cls = cN 7 := by decide +kernel
theorem hD_Reader_scanNumber (N : Nat) {r : MH} : ∀ n pc lv st h, D_Reader_scanNumber N n pc lv st h = some r → ∃ lv', (∀ q ∈ lv', q ∈ lv) ∧ seg (C_Reader_scanNumber N) 1 0 rV T_Reader_scanNumber [0, 10, 86] (fun q lv st h => match Nat.ble (pc + 1) q with
    | true => D_Reader_scanNumber N n q lv st h
    | false => B_Reader_scanNumber N n q lv st h) 400 true pc lv' st h = some r := by
  intro n pc lv st h hf
  unfold D_Reader_scanNumber at hf
  split at hf
  · rename_i hb
    have hb := Nat.eq_of_beq_eq_true hb
    subst hb
    split at hf
    · rename_i e0
      exact ⟨_, (sub_cons e0 sub_nil), (E_Reader_scanNumber_0 N n h).trans hf⟩
    · cases hf
  · skip
    split at hf
    · rename_i hb
      have hb := Nat.eq_of_beq_eq_true hb
      subst hb
      split at hf
      · rename_i e0
        exact ⟨_, (sub_cons e0 sub_nil), (E_Reader_scanNumber_10 N n h).trans hf⟩
      · cases hf
    · skip
      split at hf
      · rename_i hb
        have hb := Nat.eq_of_beq_eq_true hb
        subst hb
        split at hf
        · rename_i e0
          exact ⟨_, (sub_cons e0 sub_nil), (E_Reader_scanNumber_86 N n h).trans hf⟩
        · cases hf
      · skip
        cases hf
theorem hM_Reader_scanNumber (N : Nat) {r : MH} : ∀ n pc lv st h, D_Reader_scanNumber N n pc lv st h = some r → pc < 115 := by
  intro n pc lv st h hf
  unfold D_Reader_scanNumber at hf
  split at hf
  · rename_i hb
    rw [Nat.eq_of_beq_eq_true hb]
    decide
  · skip
    split at hf
    · rename_i hb
      rw [Nat.eq_of_beq_eq_true hb]
      decide
    · skip
      split at hf
      · rename_i hb
        rw [Nat.eq_of_beq_eq_true hb]
        decide
      · skip
        cases hf
theorem hB_Reader_scanNumber (N : Nat) {r : MH} : ∀ n pc lv st h, B_Reader_scanNumber N n pc lv st h = some r → ∃ k, n = k + 1 ∧ D_Reader_scanNumber N k pc lv st h = some r := by
  intro n pc lv st h hf
  unfold B_Reader_scanNumber at hf
  split at hf
  · rename_i hb
    have hb := Nat.eq_of_beq_eq_true hb
    subst hb
    cases n with
    | zero =>
      split at hf
      · cases hf
      · cases hf
    | succ k =>
      refine ⟨k, rfl, ?_⟩
      exact hf
  · skip
    cases hf
theorem s_Reader_scanNumber {l : Launch} {E : EV} {N : Nat} {as : List MV} {h : MH} {r : MH} (hf : w_Reader_scanNumber (f_Reader_scanNumber N) as h = some r) : SndM l E false 1 58 as h none r := by
  unfold w_Reader_scanNumber at hf
  split at hf
  · obtain ⟨m1, m2, m3, m4⟩ := mx_Reader_scanNumber
    refine snd_of (C := C_Reader_scanNumber N) (own := 7) (rz := 0) (lim := 115) rV_eq m2 m4 pl_58 (TB_in _ cw_58 rfl) ⟨(fun _ => ⟨_, _, _, _, _, _, rfl, rfl, by rw [m4]; rfl⟩), (fun z => by rw [m3] at z; cases z)⟩ (fun z => by cases z) KDL_take rfl rfl (fun z => by cases z) (fun z => by cases z) (fun _ => rfl) (by rw [m1]; exact Nat.le_of_ble_eq_true rfl)
      (fun j as h x z => by
      dsimp only [C_Reader_scanNumber] at z
      cases hb : Nat.beq j 56 with
      | true =>
        have hb := Nat.eq_of_beq_eq_true hb
        subst hb
        exact ⟨0, by decide, (fun z => by cases z), s_Reader_fail z⟩
      | false =>
        rw [hb] at z
        dsimp only at z
        cases hb : Nat.beq j 60 with
        | true =>
          have hb := Nat.eq_of_beq_eq_true hb
          subst hb
          exact ⟨0, by decide, (fun z => by cases z), s_Reader_isDigit z⟩
        | false =>
          rw [hb] at z
          dsimp only at z
          cases z)
      (fun _ _ _ _ z => by cases z)
      (fun _ _ _ _ z => by cases z)
      (fun _ _ _ _ z => by cases z)
      (fun p e R s m args below meth c Q n0 F hret => ?_)
    rw [m1] at F hret ⊢
    rw [mc_Reader_scanNumber] at F hret
    exact cuts_s (K := 400) (M := 115) (D := D_Reader_scanNumber N) (B := B_Reader_scanNumber N) F hret (chkT_ok chk_Reader_scanNumber) (hM_Reader_scanNumber N) (hB_Reader_scanNumber N) (hD_Reader_scanNumber N) N 0 _ _ _ hf
  · cases hf
def T_Reader_isLetter : List (List (Option RW)) := [
  [some (.iload_n 0, 1, [0], 0, 0), some (.bipush 97, 2, [], 97, 0), none, some (.if_icmp .lt 13, 3, [16], 0, 0), none, none, some (.iload_n 0, 1, [0], 0, 0), some (.bipush 122, 2, [], 122, 0), none, some (.if_icmp .gt 7, 3, [16], 0, 0), none, none, some (.iconst 1, 1, [], 1, 0), some (.goto 4, 3, [17], 0, 0), none, none, some (.iconst 0, 1, [], 0, 0), some (.ireturn, 1, [], 0, 0)]]
def f_Reader_isLetter (N : Nat) (a0 : Int32) (h : MH) : Option (Int32 × MH) :=
  if a0 < 97 then
  (some (0, h))
  else
  (if 122 < a0 then
  (some (0, h))
  else
  (some (1, h)))
def C_Reader_isLetter (N : Nat) : MC := (KDL, false, (fun _ => 0), jsB, (fun _ _ _ => none), (fun _ _ _ => none), (fun _ _ _ => none), (fun _ _ _ => none))
def D_Reader_isLetter (N : Nat) (n pc : Nat) (lv : ML) (st : List MV) (h : MH) : Option (Int32 × MH) :=
  match Nat.beq pc 0 with
  | true => (match lk lv 0, st with
    | some (.inl a0), [] => f_Reader_isLetter N a0 h
    | _, _ => none)
  | false => none
set_option maxRecDepth 1000000 in
theorem E_Reader_isLetter_0 (N : Nat) (n : Nat) (a0 : Int32) (h : MH) : seg (C_Reader_isLetter N) 1 1 rI T_Reader_isLetter [0] (fun q lv st h => match Nat.ble 1 q with
    | true => D_Reader_isLetter N n q lv st h
    | false => none) 400 true 0 [(0, .inl a0)] [] h = f_Reader_isLetter N a0 h := (rfl)
set_option maxRecDepth 1000000 in
theorem chk_Reader_isLetter : chkT 7 false prog_9_method_9_code T_Reader_isLetter = true := by decide +kernel
theorem mc_Reader_isLetter : mC 59 = prog_9_method_9_code := by rfl
theorem mx_Reader_isLetter : mL 59 = 1 ∧ mR 59 = some .boolean ∧ mK 59 = 0 ∧ (mN 59).cls = cN 7 := by decide +kernel
theorem hD_Reader_isLetter (N : Nat) {r : Int32 × MH} : ∀ n pc lv st h, D_Reader_isLetter N n pc lv st h = some r → ∃ lv', (∀ q ∈ lv', q ∈ lv) ∧ seg (C_Reader_isLetter N) 1 1 rI T_Reader_isLetter [0] (fun q lv st h => match Nat.ble (pc + 1) q with
    | true => D_Reader_isLetter N n q lv st h
    | false => none) 400 true pc lv' st h = some r := by
  intro n pc lv st h hf
  unfold D_Reader_isLetter at hf
  split at hf
  · rename_i hb
    have hb := Nat.eq_of_beq_eq_true hb
    subst hb
    split at hf
    · rename_i y0 e0
      exact ⟨_, (sub_cons e0 sub_nil), (E_Reader_isLetter_0 N n _ h).trans hf⟩
    · cases hf
  · skip
    cases hf
theorem hM_Reader_isLetter (N : Nat) {r : Int32 × MH} : ∀ n pc lv st h, D_Reader_isLetter N n pc lv st h = some r → pc < 18 := by
  intro n pc lv st h hf
  unfold D_Reader_isLetter at hf
  split at hf
  · rename_i hb
    rw [Nat.eq_of_beq_eq_true hb]
    decide
  · skip
    cases hf
theorem s_Reader_isLetter {l : Launch} {E : EV} {N : Nat} {as : List MV} {h : MH} {r : Int32 × MH} (hf : w_Reader_isLetter (f_Reader_isLetter N) as h = some r) : SndM l E false 0 59 as h (some (.inl r.1)) r.2 := by
  unfold w_Reader_isLetter at hf
  split at hf
  · obtain ⟨m1, m2, m3, m4⟩ := mx_Reader_isLetter
    refine snd_of (C := C_Reader_isLetter N) (own := 7) (rz := 1) (lim := 115) rI_eq m2 m4 pl_59 (TB_in _ cw_59 rfl) ⟨(fun z => by rw [m3] at z; cases z), (fun z => by rw [m3] at z; cases z)⟩ (fun z => by cases z) KDL_take rfl rfl (fun z => by cases z) (fun z => by cases z) (fun _ => rfl) (by rw [m1]; exact Nat.le_of_ble_eq_true rfl)
      (fun _ _ _ _ z => by cases z)
      (fun _ _ _ _ z => by cases z)
      (fun _ _ _ _ z => by cases z)
      (fun _ _ _ _ z => by cases z)
      (fun p e R s m args below meth c Q n0 F hret => ?_)
    rw [m1] at F hret ⊢
    rw [mc_Reader_isLetter] at F hret
    exact cuts_s (K := 400) (M := 18) (D := D_Reader_isLetter N) (B := fun _ _ _ _ _ => none) F hret (chkT_ok chk_Reader_isLetter) (hM_Reader_isLetter N) (fun _ _ _ _ _ z => by cases z) (hD_Reader_isLetter N) N 0 _ _ _ hf
  · cases hf
def T_Reader_isSignByte : List (List (Option RW)) := [
  [some (.iload_n 0, 1, [0], 0, 0), some (.bipush 59, 2, [], 59, 0), none, some (.if_icmp .eq 33, 3, [36], 0, 0), none, none, some (.iload_n 0, 1, [0], 0, 0), some (.bipush 43, 2, [], 43, 0), none, some (.if_icmp .eq 27, 3, [36], 0, 0), none, none, some (.iload_n 0, 1, [0], 0, 0), some (.bipush 45, 2, [], 45, 0), none, some (.if_icmp .eq 21, 3, [36], 0, 0), none, none, some (.iload_n 0, 1, [0], 0, 0), some (.bipush 42, 2, [], 42, 0), none, some (.if_icmp .eq 15, 3, [36], 0, 0), none, none, some (.iload_n 0, 1, [0], 0, 0), some (.bipush 40, 2, [], 40, 0), none, some (.if_icmp .eq 9, 3, [36], 0, 0), none, none, some (.iload_n 0, 1, [0], 0, 0), some (.bipush 41, 2, [], 41, 0)],
  [none, some (.if_icmp .ne 7, 3, [40], 0, 0), none, none, some (.iconst 1, 1, [], 1, 0), some (.goto 4, 3, [41], 0, 0), none, none, some (.iconst 0, 1, [], 0, 0), some (.ireturn, 1, [], 0, 0)]]
def f_Reader_isSignByte (N : Nat) (a0 : Int32) (h : MH) : Option (Int32 × MH) :=
  if a0 = 59 then
  (some (1, h))
  else
  (if a0 = 43 then
  (some (1, h))
  else
  (if a0 = 45 then
  (some (1, h))
  else
  (if a0 = 42 then
  (some (1, h))
  else
  (if a0 = 40 then
  (some (1, h))
  else
  (if a0 = 41 then
  (some (1, h))
  else
  (some (0, h)))))))
def C_Reader_isSignByte (N : Nat) : MC := (KDL, false, (fun _ => 0), jsB, (fun _ _ _ => none), (fun _ _ _ => none), (fun _ _ _ => none), (fun _ _ _ => none))
def D_Reader_isSignByte (N : Nat) (n pc : Nat) (lv : ML) (st : List MV) (h : MH) : Option (Int32 × MH) :=
  match Nat.beq pc 0 with
  | true => (match lk lv 0, st with
    | some (.inl a0), [] => f_Reader_isSignByte N a0 h
    | _, _ => none)
  | false => none
set_option maxRecDepth 1000000 in
theorem E_Reader_isSignByte_0 (N : Nat) (n : Nat) (a0 : Int32) (h : MH) : seg (C_Reader_isSignByte N) 1 1 rI T_Reader_isSignByte [0] (fun q lv st h => match Nat.ble 1 q with
    | true => D_Reader_isSignByte N n q lv st h
    | false => none) 400 true 0 [(0, .inl a0)] [] h = f_Reader_isSignByte N a0 h := (rfl)
set_option maxRecDepth 1000000 in
theorem chk_Reader_isSignByte : chkT 7 false prog_9_method_11_code T_Reader_isSignByte = true := by decide +kernel
theorem mc_Reader_isSignByte : mC 61 = prog_9_method_11_code := by rfl
theorem mx_Reader_isSignByte : mL 61 = 1 ∧ mR 61 = some .boolean ∧ mK 61 = 0 ∧ (mN 61).cls = cN 7 := by decide +kernel
theorem hD_Reader_isSignByte (N : Nat) {r : Int32 × MH} : ∀ n pc lv st h, D_Reader_isSignByte N n pc lv st h = some r → ∃ lv', (∀ q ∈ lv', q ∈ lv) ∧ seg (C_Reader_isSignByte N) 1 1 rI T_Reader_isSignByte [0] (fun q lv st h => match Nat.ble (pc + 1) q with
    | true => D_Reader_isSignByte N n q lv st h
    | false => none) 400 true pc lv' st h = some r := by
  intro n pc lv st h hf
  unfold D_Reader_isSignByte at hf
  split at hf
  · rename_i hb
    have hb := Nat.eq_of_beq_eq_true hb
    subst hb
    split at hf
    · rename_i y0 e0
      exact ⟨_, (sub_cons e0 sub_nil), (E_Reader_isSignByte_0 N n _ h).trans hf⟩
    · cases hf
  · skip
    cases hf
theorem hM_Reader_isSignByte (N : Nat) {r : Int32 × MH} : ∀ n pc lv st h, D_Reader_isSignByte N n pc lv st h = some r → pc < 42 := by
  intro n pc lv st h hf
  unfold D_Reader_isSignByte at hf
  split at hf
  · rename_i hb
    rw [Nat.eq_of_beq_eq_true hb]
    decide
  · skip
    cases hf
theorem s_Reader_isSignByte {l : Launch} {E : EV} {N : Nat} {as : List MV} {h : MH} {r : Int32 × MH} (hf : w_Reader_isSignByte (f_Reader_isSignByte N) as h = some r) : SndM l E false 0 61 as h (some (.inl r.1)) r.2 := by
  unfold w_Reader_isSignByte at hf
  split at hf
  · obtain ⟨m1, m2, m3, m4⟩ := mx_Reader_isSignByte
    refine snd_of (C := C_Reader_isSignByte N) (own := 7) (rz := 1) (lim := 115) rI_eq m2 m4 pl_61 (TB_in _ cw_61 rfl) ⟨(fun z => by rw [m3] at z; cases z), (fun z => by rw [m3] at z; cases z)⟩ (fun z => by cases z) KDL_take rfl rfl (fun z => by cases z) (fun z => by cases z) (fun _ => rfl) (by rw [m1]; exact Nat.le_of_ble_eq_true rfl)
      (fun _ _ _ _ z => by cases z)
      (fun _ _ _ _ z => by cases z)
      (fun _ _ _ _ z => by cases z)
      (fun _ _ _ _ z => by cases z)
      (fun p e R s m args below meth c Q n0 F hret => ?_)
    rw [m1] at F hret ⊢
    rw [mc_Reader_isSignByte] at F hret
    exact cuts_s (K := 400) (M := 42) (D := D_Reader_isSignByte N) (B := fun _ _ _ _ _ => none) F hret (chkT_ok chk_Reader_isSignByte) (hM_Reader_isSignByte N) (fun _ _ _ _ _ z => by cases z) (hD_Reader_isSignByte N) N 0 _ _ _ hf
  · cases hf
def T_Reader_advance : List (List (Option RW)) := [
  [some (.aload_n 0, 1, [0], 0, 0), some (.aload_n 0, 1, [0], 0, 0), some (.getfield 28, 3, [7, 5, 0], 0, 0), none, none, some (.putfield 25, 3, [7, 4, 0], 0, 0), none, none, some (.aload_n 0, 1, [0], 0, 0), some (.getfield 25, 3, [7, 4, 0], 0, 0), none, none, some (.aload_n 0, 1, [0], 0, 0), some (.getfield 19, 3, [7, 2, 0], 0, 0), none, none, some (.if_icmp .ge 44, 3, [60], 0, 0), none, none, some (.aload_n 0, 1, [0], 0, 0), some (.getfield 9, 3, [7, 0, 2, 3, 600, 1], 0, 0), none, none, some (.aload_n 0, 1, [0], 0, 0), some (.getfield 25, 3, [7, 4, 0], 0, 0), none, none, some (.baload, 1, [], 0, 0), some (.bipush 10, 2, [], 10, 0), none, some (.if_icmp .eq 17, 3, [47], 0, 0), none],
  [none, some (.aload_n 0, 1, [0], 0, 0), some (.getfield 9, 3, [7, 0, 2, 3, 600, 1], 0, 0), none, none, some (.aload_n 0, 1, [0], 0, 0), some (.getfield 25, 3, [7, 4, 0], 0, 0), none, none, some (.baload, 1, [], 0, 0), some (.bipush 32, 2, [], 32, 0), none, some (.if_icmp .ne 16, 3, [60], 0, 0), none, none, some (.aload_n 0, 1, [0], 0, 0), some (.dup, 1, [], 0, 0), some (.getfield 25, 3, [7, 4, 0], 0, 0), none, none, some (.iconst 1, 1, [], 1, 0), some (.iadd, 1, [], 0, 0), some (.putfield 25, 3, [7, 4, 0], 0, 0), none, none, some (.goto (-49), 3, [8], 0, 0), none, none, some (.aload_n 0, 1, [0], 0, 0), some (.aload_n 0, 1, [0], 0, 0), some (.getfield 25, 3, [7, 4, 0], 0, 0), none],
  [none, some (.putfield 28, 3, [7, 5, 0], 0, 0), none, none, some (.aload_n 0, 1, [0], 0, 0), some (.getfield 25, 3, [7, 4, 0], 0, 0), none, none, some (.aload_n 0, 1, [0], 0, 0), some (.getfield 19, 3, [7, 2, 0], 0, 0), none, none, some (.if_icmp .lt 11, 3, [87], 0, 0), none, none, some (.aload_n 0, 1, [0], 0, 0), some (.iconst 0, 1, [], 0, 0), some (.putfield 22, 3, [7, 3, 0], 0, 0), none, none, some (.goto 132, 3, [216], 0, 0), none, none, some (.aload_n 0, 1, [0], 0, 0), some (.getfield 9, 3, [7, 0, 2, 3, 600, 1], 0, 0), none, none, some (.aload_n 0, 1, [0], 0, 0), some (.getfield 25, 3, [7, 4, 0], 0, 0), none, none, some (.baload, 1, [], 0, 0)],
  [some (.invokestatic 72, 3, [2, 59, 1, 0], 0, 0), none, none, some (.ifCond .eq 47, 3, [146], 0, 0), none, none, some (.aload_n 0, 1, [0], 0, 0), some (.iconst 1, 1, [], 1, 0), some (.putfield 22, 3, [7, 3, 0], 0, 0), none, none, some (.aload_n 0, 1, [0], 0, 0), some (.getfield 28, 3, [7, 5, 0], 0, 0), none, none, some (.aload_n 0, 1, [0], 0, 0), some (.getfield 19, 3, [7, 2, 0], 0, 0), none, none, some (.if_icmp .ge 101, 3, [216], 0, 0), none, none, some (.aload_n 0, 1, [0], 0, 0), some (.getfield 9, 3, [7, 0, 2, 3, 600, 1], 0, 0), none, none, some (.aload_n 0, 1, [0], 0, 0), some (.getfield 28, 3, [7, 5, 0], 0, 0), none, none, some (.baload, 1, [], 0, 0), some (.invokestatic 72, 3, [2, 59, 1, 0], 0, 0)],
  [none, none, some (.ifCond .eq 86, 3, [216], 0, 0), none, none, some (.aload_n 0, 1, [0], 0, 0), some (.dup, 1, [], 0, 0), some (.getfield 28, 3, [7, 5, 0], 0, 0), none, none, some (.iconst 1, 1, [], 1, 0), some (.iadd, 1, [], 0, 0), some (.putfield 28, 3, [7, 5, 0], 0, 0), none, none, some (.goto (-36), 3, [107], 0, 0), none, none, some (.aload_n 0, 1, [0], 0, 0), some (.getfield 9, 3, [7, 0, 2, 3, 600, 1], 0, 0), none, none, some (.aload_n 0, 1, [0], 0, 0), some (.getfield 25, 3, [7, 4, 0], 0, 0), none, none, some (.baload, 1, [], 0, 0), some (.invokestatic 76, 3, [2, 60, 1, 0], 0, 0), none, none, some (.ifCond .eq 10, 3, [168], 0, 0), none],
  [none, some (.aload_n 0, 1, [0], 0, 0), some (.invokevirtual 79, 3, [0, 58, 1, 3], 0, 0), none, none, some (.goto 51, 3, [216], 0, 0), none, none, some (.aload_n 0, 1, [0], 0, 0), some (.getfield 9, 3, [7, 0, 2, 3, 600, 1], 0, 0), none, none, some (.aload_n 0, 1, [0], 0, 0), some (.getfield 25, 3, [7, 4, 0], 0, 0), none, none, some (.baload, 1, [], 0, 0), some (.invokestatic 82, 3, [2, 61, 1, 0], 0, 0), none, none, some (.ifCond .eq 21, 3, [201], 0, 0), none, none, some (.aload_n 0, 1, [0], 0, 0), some (.iconst 3, 1, [], 3, 0), some (.putfield 22, 3, [7, 3, 0], 0, 0), none, none, some (.aload_n 0, 1, [0], 0, 0), some (.dup, 1, [], 0, 0), some (.getfield 28, 3, [7, 5, 0], 0, 0), none],
  [none, some (.iconst 1, 1, [], 1, 0), some (.iadd, 1, [], 0, 0), some (.putfield 28, 3, [7, 5, 0], 0, 0), none, none, some (.goto 18, 3, [216], 0, 0), none, none, some (.aload_n 0, 1, [0], 0, 0), some (.iconst 4, 1, [], 4, 0), some (.putfield 22, 3, [7, 3, 0], 0, 0), none, none, some (.aload_n 0, 1, [0], 0, 0), some (.iconst 1, 1, [], 1, 0), some (.aload_n 0, 1, [0], 0, 0), some (.getfield 25, 3, [7, 4, 0], 0, 0), none, none, some (.invokevirtual 85, 3, [0, 56, 3, 0], 0, 0), none, none, some (.pop, 1, [], 0, 0), some (.return_, 1, [], 0, 0)]]
def F_Reader_advance_107 (N : Nat) (bk : (MH → Option (MH)) × (MH → Option (MH))) (h : MH) : Option (MH) :=
  if (gI h 3 2) ≤ (gI h 3 5) then
  (some h)
  else
  (if inB (gI h 3 5) 600 = true then
  ((f_Reader_isLetter N (gI h 4 (iN (gI h 3 5))) h).bind (fun x15 =>
  if x15.1 = 0 then
  (some x15.2)
  else
  (let h16 : MH := sI x15.2 3 5 ((gI x15.2 3 5) + 1)
  (bk.2) h16)))
  else none)
def F_Reader_advance_60 (N : Nat) (bk : (MH → Option (MH)) × (MH → Option (MH))) (h : MH) : Option (MH) :=
  let h4 : MH := sI h 3 5 (gI h 3 4)
  if (gI h4 3 4) < (gI h4 3 2) then
  (if inB (gI h4 3 4) 600 = true then
  ((f_Reader_isLetter N (gI h4 4 (iN (gI h4 3 4))) h4).bind (fun x5 =>
  if x5.1 = 0 then
  (if inB (gI x5.2 3 4) 600 = true then
  ((f_Reader_isDigit N (gI x5.2 4 (iN (gI x5.2 3 4))) x5.2).bind (fun x6 =>
  if x6.1 = 0 then
  (if inB (gI x6.2 3 4) 600 = true then
  ((f_Reader_isSignByte N (gI x6.2 4 (iN (gI x6.2 3 4))) x6.2).bind (fun x7 =>
  if x7.1 = 0 then
  (let h8 : MH := sI x7.2 3 3 4
  (f_Reader_fail N 1 (gI h8 3 4) h8).bind (fun x9 =>
  some x9.2))
  else
  (let h10 : MH := sI x7.2 3 3 3
  let h11 : MH := sI h10 3 5 ((gI h10 3 5) + 1)
  some h11)))
  else none)
  else
  ((f_Reader_scanNumber N x6.2).bind (fun x12 =>
  some x12))))
  else none)
  else
  (let h13 : MH := sI x5.2 3 3 1
  F_Reader_advance_107 N bk h13)))
  else none)
  else
  (let h14 : MH := sI h4 3 3 0
  some h14)
def F_Reader_advance_8 (N : Nat) (bk : (MH → Option (MH)) × (MH → Option (MH))) (h : MH) : Option (MH) :=
  if (gI h 3 2) ≤ (gI h 3 4) then
  (F_Reader_advance_60 N bk h)
  else
  (if inB (gI h 3 4) 600 = true then
  (if (gI h 4 (iN (gI h 3 4))) = 10 then
  (let h2 : MH := sI h 3 4 ((gI h 3 4) + 1)
  (bk.1) h2)
  else
  (if inB (gI h 3 4) 600 = true then
  (if (gI h 4 (iN (gI h 3 4))) = 32 then
  (let h3 : MH := sI h 3 4 ((gI h 3 4) + 1)
  (bk.1) h3)
  else
  (F_Reader_advance_60 N bk h))
  else none))
  else none)
def F_Reader_advance_0 (N : Nat) (bk : (MH → Option (MH)) × (MH → Option (MH))) (h : MH) : Option (MH) :=
  let h1 : MH := sI h 3 4 (gI h 3 5)
  F_Reader_advance_8 N bk h1
def L_Reader_advance (N : Nat) : Nat → ((MH → Option (MH)) × (MH → Option (MH)))
  | 0 => (fun _ => none, fun _ => none)
  | n + 1 => (F_Reader_advance_8 N (L_Reader_advance N n), F_Reader_advance_107 N (L_Reader_advance N n))
def f_Reader_advance (N : Nat) (h : MH) : Option (MH) := F_Reader_advance_0 N (L_Reader_advance N N) h
def C_Reader_advance (N : Nat) : MC := (KDL, false, (fun _ => 0), jsB, (fun j => match Nat.beq j 56 with
    | true => w_Reader_fail (f_Reader_fail N)
    | false => match Nat.beq j 59 with
    | true => w_Reader_isLetter (f_Reader_isLetter N)
    | false => match Nat.beq j 60 with
    | true => w_Reader_isDigit (f_Reader_isDigit N)
    | false => match Nat.beq j 61 with
    | true => w_Reader_isSignByte (f_Reader_isSignByte N)
    | false => fun _ _ => none), (fun _ _ _ => none), (fun _ _ _ => none), (fun j => match Nat.beq j 58 with
    | true => w_Reader_scanNumber (f_Reader_scanNumber N)
    | false => fun _ _ => none))
def D_Reader_advance (N : Nat) (n pc : Nat) (lv : ML) (st : List MV) (h : MH) : Option (MH) :=
  match Nat.beq pc 0 with
  | true => (match lk lv 0, st with
    | some (.inr (.inr (0, 7, 3))), [] => F_Reader_advance_0 N (L_Reader_advance N n) h
    | _, _ => none)
  | false => match Nat.beq pc 8 with
  | true => (match lk lv 0, st with
    | some (.inr (.inr (0, 7, 3))), [] => F_Reader_advance_8 N (L_Reader_advance N n) h
    | _, _ => none)
  | false => match Nat.beq pc 60 with
  | true => (match lk lv 0, st with
    | some (.inr (.inr (0, 7, 3))), [] => F_Reader_advance_60 N (L_Reader_advance N n) h
    | _, _ => none)
  | false => match Nat.beq pc 107 with
  | true => (match lk lv 0, st with
    | some (.inr (.inr (0, 7, 3))), [] => F_Reader_advance_107 N (L_Reader_advance N n) h
    | _, _ => none)
  | false => none
def B_Reader_advance (N : Nat) (n pc : Nat) (lv : ML) (st : List MV) (h : MH) : Option (MH) :=
  match Nat.beq pc 8 with
  | true => (match lk lv 0, st with
    | some (.inr (.inr (0, 7, 3))), [] => ((L_Reader_advance N n).1) h
    | _, _ => none)
  | false => match Nat.beq pc 107 with
  | true => (match lk lv 0, st with
    | some (.inr (.inr (0, 7, 3))), [] => ((L_Reader_advance N n).2) h
    | _, _ => none)
  | false => none
set_option maxRecDepth 1000000 in
theorem E_Reader_advance_0 (N : Nat) (n : Nat) (h : MH) : seg (C_Reader_advance N) 1 0 rV T_Reader_advance [0, 8, 60, 107] (fun q lv st h => match Nat.ble 1 q with
    | true => D_Reader_advance N n q lv st h
    | false => B_Reader_advance N n q lv st h) 400 true 0 [(0, .inr (.inr (0, 7, 3)))] [] h = F_Reader_advance_0 N (L_Reader_advance N n) h := (rfl)
set_option maxRecDepth 1000000 in
theorem E_Reader_advance_8 (N : Nat) (n : Nat) (h : MH) : seg (C_Reader_advance N) 1 0 rV T_Reader_advance [0, 8, 60, 107] (fun q lv st h => match Nat.ble 9 q with
    | true => D_Reader_advance N n q lv st h
    | false => B_Reader_advance N n q lv st h) 400 true 8 [(0, .inr (.inr (0, 7, 3)))] [] h = F_Reader_advance_8 N (L_Reader_advance N n) h := (rfl)
set_option maxRecDepth 1000000 in
theorem E_Reader_advance_60 (N : Nat) (n : Nat) (h : MH) : seg (C_Reader_advance N) 1 0 rV T_Reader_advance [0, 8, 60, 107] (fun q lv st h => match Nat.ble 61 q with
    | true => D_Reader_advance N n q lv st h
    | false => B_Reader_advance N n q lv st h) 400 true 60 [(0, .inr (.inr (0, 7, 3)))] [] h = F_Reader_advance_60 N (L_Reader_advance N n) h := (rfl)
set_option maxRecDepth 1000000 in
theorem E_Reader_advance_107 (N : Nat) (n : Nat) (h : MH) : seg (C_Reader_advance N) 1 0 rV T_Reader_advance [0, 8, 60, 107] (fun q lv st h => match Nat.ble 108 q with
    | true => D_Reader_advance N n q lv st h
    | false => B_Reader_advance N n q lv st h) 400 true 107 [(0, .inr (.inr (0, 7, 3)))] [] h = F_Reader_advance_107 N (L_Reader_advance N n) h := (rfl)
set_option maxRecDepth 1000000 in
theorem chk_Reader_advance : chkT 7 false prog_9_method_7_code T_Reader_advance = true := by decide +kernel
theorem mc_Reader_advance : mC 57 = prog_9_method_7_code := by rfl
theorem mx_Reader_advance : mL 57 = 1 ∧ mR 57 = none ∧ mK 57 = 1 ∧ (mN 57).cls = cN 7 := by decide +kernel
theorem hD_Reader_advance (N : Nat) {r : MH} : ∀ n pc lv st h, D_Reader_advance N n pc lv st h = some r → ∃ lv', (∀ q ∈ lv', q ∈ lv) ∧ seg (C_Reader_advance N) 1 0 rV T_Reader_advance [0, 8, 60, 107] (fun q lv st h => match Nat.ble (pc + 1) q with
    | true => D_Reader_advance N n q lv st h
    | false => B_Reader_advance N n q lv st h) 400 true pc lv' st h = some r := by
  intro n pc lv st h hf
  unfold D_Reader_advance at hf
  split at hf
  · rename_i hb
    have hb := Nat.eq_of_beq_eq_true hb
    subst hb
    split at hf
    · rename_i e0
      exact ⟨_, (sub_cons e0 sub_nil), (E_Reader_advance_0 N n h).trans hf⟩
    · cases hf
  · skip
    split at hf
    · rename_i hb
      have hb := Nat.eq_of_beq_eq_true hb
      subst hb
      split at hf
      · rename_i e0
        exact ⟨_, (sub_cons e0 sub_nil), (E_Reader_advance_8 N n h).trans hf⟩
      · cases hf
    · skip
      split at hf
      · rename_i hb
        have hb := Nat.eq_of_beq_eq_true hb
        subst hb
        split at hf
        · rename_i e0
          exact ⟨_, (sub_cons e0 sub_nil), (E_Reader_advance_60 N n h).trans hf⟩
        · cases hf
      · skip
        split at hf
        · rename_i hb
          have hb := Nat.eq_of_beq_eq_true hb
          subst hb
          split at hf
          · rename_i e0
            exact ⟨_, (sub_cons e0 sub_nil), (E_Reader_advance_107 N n h).trans hf⟩
          · cases hf
        · skip
          cases hf
theorem hM_Reader_advance (N : Nat) {r : MH} : ∀ n pc lv st h, D_Reader_advance N n pc lv st h = some r → pc < 217 := by
  intro n pc lv st h hf
  unfold D_Reader_advance at hf
  split at hf
  · rename_i hb
    rw [Nat.eq_of_beq_eq_true hb]
    decide
  · skip
    split at hf
    · rename_i hb
      rw [Nat.eq_of_beq_eq_true hb]
      decide
    · skip
      split at hf
      · rename_i hb
        rw [Nat.eq_of_beq_eq_true hb]
        decide
      · skip
        split at hf
        · rename_i hb
          rw [Nat.eq_of_beq_eq_true hb]
          decide
        · skip
          cases hf
theorem hB_Reader_advance (N : Nat) {r : MH} : ∀ n pc lv st h, B_Reader_advance N n pc lv st h = some r → ∃ k, n = k + 1 ∧ D_Reader_advance N k pc lv st h = some r := by
  intro n pc lv st h hf
  unfold B_Reader_advance at hf
  split at hf
  · rename_i hb
    have hb := Nat.eq_of_beq_eq_true hb
    subst hb
    cases n with
    | zero =>
      split at hf
      · cases hf
      · cases hf
    | succ k =>
      refine ⟨k, rfl, ?_⟩
      exact hf
  · skip
    split at hf
    · rename_i hb
      have hb := Nat.eq_of_beq_eq_true hb
      subst hb
      cases n with
      | zero =>
        split at hf
        · cases hf
        · cases hf
      | succ k =>
        refine ⟨k, rfl, ?_⟩
        exact hf
    · skip
      cases hf
theorem s_Reader_advance {l : Launch} {E : EV} {N : Nat} {as : List MV} {h : MH} {r : MH} (hf : w_Reader_advance (f_Reader_advance N) as h = some r) : SndM l E false 2 57 as h none r := by
  unfold w_Reader_advance at hf
  split at hf
  · obtain ⟨m1, m2, m3, m4⟩ := mx_Reader_advance
    refine snd_of (C := C_Reader_advance N) (own := 7) (rz := 0) (lim := 115) rV_eq m2 m4 pl_57 (TB_in _ cw_57 rfl) ⟨(fun _ => ⟨_, _, _, _, _, _, rfl, rfl, by rw [m4]; rfl⟩), (fun z => by rw [m3] at z; cases z)⟩ (fun z => by cases z) KDL_take rfl rfl (fun z => by cases z) (fun z => by cases z) (fun _ => rfl) (by rw [m1]; exact Nat.le_of_ble_eq_true rfl)
      (fun j as h x z => by
      dsimp only [C_Reader_advance] at z
      cases hb : Nat.beq j 56 with
      | true =>
        have hb := Nat.eq_of_beq_eq_true hb
        subst hb
        exact ⟨0, by decide, (fun z => by cases z), s_Reader_fail z⟩
      | false =>
        rw [hb] at z
        dsimp only at z
        cases hb : Nat.beq j 59 with
        | true =>
          have hb := Nat.eq_of_beq_eq_true hb
          subst hb
          exact ⟨0, by decide, (fun z => by cases z), s_Reader_isLetter z⟩
        | false =>
          rw [hb] at z
          dsimp only at z
          cases hb : Nat.beq j 60 with
          | true =>
            have hb := Nat.eq_of_beq_eq_true hb
            subst hb
            exact ⟨0, by decide, (fun z => by cases z), s_Reader_isDigit z⟩
          | false =>
            rw [hb] at z
            dsimp only at z
            cases hb : Nat.beq j 61 with
            | true =>
              have hb := Nat.eq_of_beq_eq_true hb
              subst hb
              exact ⟨0, by decide, (fun z => by cases z), s_Reader_isSignByte z⟩
            | false =>
              rw [hb] at z
              dsimp only at z
              cases z)
      (fun _ _ _ _ z => by cases z)
      (fun _ _ _ _ z => by cases z)
      (fun j as h x z => by
      dsimp only [C_Reader_advance] at z
      cases hb : Nat.beq j 58 with
      | true =>
        have hb := Nat.eq_of_beq_eq_true hb
        subst hb
        exact ⟨1, by decide, (fun z => by cases z), s_Reader_scanNumber z⟩
      | false =>
        rw [hb] at z
        dsimp only at z
        cases z)
      (fun p e R s m args below meth c Q n0 F hret => ?_)
    rw [m1] at F hret ⊢
    rw [mc_Reader_advance] at F hret
    exact cuts_s (K := 400) (M := 217) (D := D_Reader_advance N) (B := B_Reader_advance N) F hret (chkT_ok chk_Reader_advance) (hM_Reader_advance N) (hB_Reader_advance N) (hD_Reader_advance N) N 0 _ _ _ hf
  · cases hf
def T_String_coder : List (List (Option RW)) := [
  [some (.getstatic 38, 3, [], 1, 0), none, none, some (.ifCond .eq 10, 3, [13], 0, 0), none, none, some (.aload_n 0, 1, [0], 0, 0), some (.getfield 15, 3, [5], 0, 0), none, none, some (.goto 4, 3, [14], 0, 0), none, none, some (.iconst 1, 1, [], 1, 0), some (.ireturn, 1, [], 0, 0)]]
def f_String_coder (N : Nat) (q0 : Nat) (h : MH) : Option (Int32 × MH) :=
  if (1 : Int32) = 0 then
  (match narOK 2 1 with
  | true => some (1, h)
  | false => none)
  else
  (match narOK 2 0 with
  | true => some (0, h)
  | false => none)
def C_String_coder (N : Nat) : MC := (KDL, false, (fun _ => 0), jsB, (fun _ _ _ => none), (fun _ _ _ => none), (fun _ _ _ => none), (fun _ _ _ => none))
def D_String_coder (N : Nat) (n pc : Nat) (lv : ML) (st : List MV) (h : MH) : Option (Int32 × MH) :=
  match Nat.beq pc 0 with
  | true => (match lk lv 0, st with
    | some (.inr (.inr (8, q0, 0))), [] => f_String_coder N q0 h
    | _, _ => none)
  | false => none
set_option maxRecDepth 1000000 in
theorem E_String_coder_0 (N : Nat) (n : Nat) (q0 : Nat) (h : MH) : seg (C_String_coder N) 1 2 rI T_String_coder [0] (fun q lv st h => match Nat.ble 1 q with
    | true => D_String_coder N n q lv st h
    | false => none) 400 true 0 [(0, .inr (.inr (8, q0, 0)))] [] h = f_String_coder N q0 h := (rfl)
set_option maxRecDepth 1000000 in
theorem chk_String_coder : chkT 14 false prog_18_method_152_code T_String_coder = true := by decide +kernel
theorem mc_String_coder : mC 265 = prog_18_method_152_code := by rfl
theorem mx_String_coder : mL 265 = 1 ∧ mR 265 = some .byte ∧ mK 265 = 2 ∧ (mN 265).cls = cN 14 := by decide +kernel
theorem hD_String_coder (N : Nat) {r : Int32 × MH} : ∀ n pc lv st h, D_String_coder N n pc lv st h = some r → ∃ lv', (∀ q ∈ lv', q ∈ lv) ∧ seg (C_String_coder N) 1 2 rI T_String_coder [0] (fun q lv st h => match Nat.ble (pc + 1) q with
    | true => D_String_coder N n q lv st h
    | false => none) 400 true pc lv' st h = some r := by
  intro n pc lv st h hf
  unfold D_String_coder at hf
  split at hf
  · rename_i hb
    have hb := Nat.eq_of_beq_eq_true hb
    subst hb
    split at hf
    · rename_i y0 e0
      exact ⟨_, (sub_cons e0 sub_nil), (E_String_coder_0 N n _ h).trans hf⟩
    · cases hf
  · skip
    cases hf
theorem hM_String_coder (N : Nat) {r : Int32 × MH} : ∀ n pc lv st h, D_String_coder N n pc lv st h = some r → pc < 15 := by
  intro n pc lv st h hf
  unfold D_String_coder at hf
  split at hf
  · rename_i hb
    rw [Nat.eq_of_beq_eq_true hb]
    decide
  · skip
    cases hf
theorem s_String_coder {l : Launch} {E : EV} {N : Nat} {as : List MV} {h : MH} {r : Int32 × MH} (hf : w_String_coder (f_String_coder N) as h = some r) : SndM l E false 0 265 as h (some (.inl r.1)) r.2 := by
  unfold w_String_coder at hf
  split at hf
  · obtain ⟨m1, m2, m3, m4⟩ := mx_String_coder
    refine snd_of (C := C_String_coder N) (own := 14) (rz := 2) (lim := 115) rI_eq m2 m4 pl_265 (TB_in _ cw_265 rfl) ⟨(fun z => by rw [m3] at z; cases z), (fun _ => ⟨_, _, rfl⟩)⟩ (fun z => by cases z) KDL_take rfl rfl (fun z => by cases z) (fun z => by cases z) (fun _ => rfl) (by rw [m1]; exact Nat.le_of_ble_eq_true rfl)
      (fun _ _ _ _ z => by cases z)
      (fun _ _ _ _ z => by cases z)
      (fun _ _ _ _ z => by cases z)
      (fun _ _ _ _ z => by cases z)
      (fun p e R s m args below meth c Q n0 F hret => ?_)
    rw [m1] at F hret ⊢
    rw [mc_String_coder] at F hret
    exact cuts_s (K := 400) (M := 15) (D := D_String_coder N) (B := fun _ _ _ _ _ => none) F hret (chkT_ok chk_String_coder) (hM_String_coder N) (fun _ _ _ _ _ z => by cases z) (hD_String_coder N) N 0 _ _ _ hf
  · cases hf
def T_String_length : List (List (Option RW)) := [
  [some (.aload_n 0, 1, [0], 0, 0), some (.getfield 9, 3, [4], 0, 0), none, none, some (.arraylength, 1, [], 0, 0), some (.aload_n 0, 1, [0], 0, 0), some (.invokevirtual 335, 3, [6, 265, 1, 0], 0, 0), none, none, some (.ishr, 1, [], 0, 0), some (.ireturn, 1, [], 0, 0)]]
def f_String_length (N : Nat) (q0 : Nat) (h : MH) : Option (Int32 × MH) :=
  (f_String_coder N q0 h).bind (fun x1 =>
  some (((nI (jsB.getD q0 []).length)) >>> (x1.1 &&& 31), x1.2))
def C_String_length (N : Nat) : MC := (KDL, false, (fun _ => 0), jsB, (fun j => match Nat.beq j 265 with
    | true => w_String_coder (f_String_coder N)
    | false => fun _ _ => none), (fun _ _ _ => none), (fun _ _ _ => none), (fun _ _ _ => none))
def D_String_length (N : Nat) (n pc : Nat) (lv : ML) (st : List MV) (h : MH) : Option (Int32 × MH) :=
  match Nat.beq pc 0 with
  | true => (match lk lv 0, st with
    | some (.inr (.inr (8, q0, 0))), [] => f_String_length N q0 h
    | _, _ => none)
  | false => none
set_option maxRecDepth 1000000 in
theorem E_String_length_0 (N : Nat) (n : Nat) (q0 : Nat) (h : MH) : seg (C_String_length N) 1 0 rI T_String_length [0] (fun q lv st h => match Nat.ble 1 q with
    | true => D_String_length N n q lv st h
    | false => none) 400 true 0 [(0, .inr (.inr (8, q0, 0)))] [] h = f_String_length N q0 h := (rfl)
set_option maxRecDepth 1000000 in
theorem chk_String_length : chkT 14 false prog_18_method_54_code T_String_length = true := by decide +kernel
theorem mc_String_length : mC 263 = prog_18_method_54_code := by rfl
theorem mx_String_length : mL 263 = 1 ∧ mR 263 = some .int ∧ mK 263 = 2 ∧ (mN 263).cls = cN 14 := by decide +kernel
theorem hD_String_length (N : Nat) {r : Int32 × MH} : ∀ n pc lv st h, D_String_length N n pc lv st h = some r → ∃ lv', (∀ q ∈ lv', q ∈ lv) ∧ seg (C_String_length N) 1 0 rI T_String_length [0] (fun q lv st h => match Nat.ble (pc + 1) q with
    | true => D_String_length N n q lv st h
    | false => none) 400 true pc lv' st h = some r := by
  intro n pc lv st h hf
  unfold D_String_length at hf
  split at hf
  · rename_i hb
    have hb := Nat.eq_of_beq_eq_true hb
    subst hb
    split at hf
    · rename_i y0 e0
      exact ⟨_, (sub_cons e0 sub_nil), (E_String_length_0 N n _ h).trans hf⟩
    · cases hf
  · skip
    cases hf
theorem hM_String_length (N : Nat) {r : Int32 × MH} : ∀ n pc lv st h, D_String_length N n pc lv st h = some r → pc < 11 := by
  intro n pc lv st h hf
  unfold D_String_length at hf
  split at hf
  · rename_i hb
    rw [Nat.eq_of_beq_eq_true hb]
    decide
  · skip
    cases hf
theorem s_String_length {l : Launch} {E : EV} {N : Nat} {as : List MV} {h : MH} {r : Int32 × MH} (hf : w_String_length (f_String_length N) as h = some r) : SndM l E false 1 263 as h (some (.inl r.1)) r.2 := by
  unfold w_String_length at hf
  split at hf
  · obtain ⟨m1, m2, m3, m4⟩ := mx_String_length
    refine snd_of (C := C_String_length N) (own := 14) (rz := 0) (lim := 115) rI_eq m2 m4 pl_263 (TB_in _ cw_263 rfl) ⟨(fun z => by rw [m3] at z; cases z), (fun _ => ⟨_, _, rfl⟩)⟩ (fun z => by cases z) KDL_take rfl rfl (fun z => by cases z) (fun z => by cases z) (fun _ => rfl) (by rw [m1]; exact Nat.le_of_ble_eq_true rfl)
      (fun j as h x z => by
      dsimp only [C_String_length] at z
      cases hb : Nat.beq j 265 with
      | true =>
        have hb := Nat.eq_of_beq_eq_true hb
        subst hb
        exact ⟨0, by decide, (fun z => by cases z), s_String_coder z⟩
      | false =>
        rw [hb] at z
        dsimp only at z
        cases z)
      (fun _ _ _ _ z => by cases z)
      (fun _ _ _ _ z => by cases z)
      (fun _ _ _ _ z => by cases z)
      (fun p e R s m args below meth c Q n0 F hret => ?_)
    rw [m1] at F hret ⊢
    rw [mc_String_length] at F hret
    exact cuts_s (K := 400) (M := 11) (D := D_String_length N) (B := fun _ _ _ _ _ => none) F hret (chkT_ok chk_String_length) (hM_String_length N) (fun _ _ _ _ _ z => by cases z) (hD_String_length N) N 0 _ _ _ hf
  · cases hf
def T_String_isLatin1 : List (List (Option RW)) := [
  [some (.getstatic 38, 3, [], 1, 0), none, none, some (.ifCond .eq 14, 3, [17], 0, 0), none, none, some (.aload_n 0, 1, [0], 0, 0), some (.getfield 15, 3, [5], 0, 0), none, none, some (.ifCond .ne 7, 3, [17], 0, 0), none, none, some (.iconst 1, 1, [], 1, 0), some (.goto 4, 3, [18], 0, 0), none, none, some (.iconst 0, 1, [], 0, 0), some (.ireturn, 1, [], 0, 0)]]
def f_String_isLatin1 (N : Nat) (q0 : Nat) (h : MH) : Option (Int32 × MH) :=
  if (1 : Int32) = 0 then
  (some (0, h))
  else
  (if (0 : Int32) = 0 then
  (some (1, h))
  else
  (some (0, h)))
def C_String_isLatin1 (N : Nat) : MC := (KDL, false, (fun _ => 0), jsB, (fun _ _ _ => none), (fun _ _ _ => none), (fun _ _ _ => none), (fun _ _ _ => none))
def D_String_isLatin1 (N : Nat) (n pc : Nat) (lv : ML) (st : List MV) (h : MH) : Option (Int32 × MH) :=
  match Nat.beq pc 0 with
  | true => (match lk lv 0, st with
    | some (.inr (.inr (8, q0, 0))), [] => f_String_isLatin1 N q0 h
    | _, _ => none)
  | false => none
set_option maxRecDepth 1000000 in
theorem E_String_isLatin1_0 (N : Nat) (n : Nat) (q0 : Nat) (h : MH) : seg (C_String_isLatin1 N) 1 1 rI T_String_isLatin1 [0] (fun q lv st h => match Nat.ble 1 q with
    | true => D_String_isLatin1 N n q lv st h
    | false => none) 400 true 0 [(0, .inr (.inr (8, q0, 0)))] [] h = f_String_isLatin1 N q0 h := (rfl)
set_option maxRecDepth 1000000 in
theorem chk_String_isLatin1 : chkT 14 false prog_18_method_154_code T_String_isLatin1 = true := by decide +kernel
theorem mc_String_isLatin1 : mC 266 = prog_18_method_154_code := by rfl
theorem mx_String_isLatin1 : mL 266 = 1 ∧ mR 266 = some .boolean ∧ mK 266 = 2 ∧ (mN 266).cls = cN 14 := by decide +kernel
theorem hD_String_isLatin1 (N : Nat) {r : Int32 × MH} : ∀ n pc lv st h, D_String_isLatin1 N n pc lv st h = some r → ∃ lv', (∀ q ∈ lv', q ∈ lv) ∧ seg (C_String_isLatin1 N) 1 1 rI T_String_isLatin1 [0] (fun q lv st h => match Nat.ble (pc + 1) q with
    | true => D_String_isLatin1 N n q lv st h
    | false => none) 400 true pc lv' st h = some r := by
  intro n pc lv st h hf
  unfold D_String_isLatin1 at hf
  split at hf
  · rename_i hb
    have hb := Nat.eq_of_beq_eq_true hb
    subst hb
    split at hf
    · rename_i y0 e0
      exact ⟨_, (sub_cons e0 sub_nil), (E_String_isLatin1_0 N n _ h).trans hf⟩
    · cases hf
  · skip
    cases hf
theorem hM_String_isLatin1 (N : Nat) {r : Int32 × MH} : ∀ n pc lv st h, D_String_isLatin1 N n pc lv st h = some r → pc < 19 := by
  intro n pc lv st h hf
  unfold D_String_isLatin1 at hf
  split at hf
  · rename_i hb
    rw [Nat.eq_of_beq_eq_true hb]
    decide
  · skip
    cases hf
theorem s_String_isLatin1 {l : Launch} {E : EV} {N : Nat} {as : List MV} {h : MH} {r : Int32 × MH} (hf : w_String_isLatin1 (f_String_isLatin1 N) as h = some r) : SndM l E false 0 266 as h (some (.inl r.1)) r.2 := by
  unfold w_String_isLatin1 at hf
  split at hf
  · obtain ⟨m1, m2, m3, m4⟩ := mx_String_isLatin1
    refine snd_of (C := C_String_isLatin1 N) (own := 14) (rz := 1) (lim := 115) rI_eq m2 m4 pl_266 (TB_in _ cw_266 rfl) ⟨(fun z => by rw [m3] at z; cases z), (fun _ => ⟨_, _, rfl⟩)⟩ (fun z => by cases z) KDL_take rfl rfl (fun z => by cases z) (fun z => by cases z) (fun _ => rfl) (by rw [m1]; exact Nat.le_of_ble_eq_true rfl)
      (fun _ _ _ _ z => by cases z)
      (fun _ _ _ _ z => by cases z)
      (fun _ _ _ _ z => by cases z)
      (fun _ _ _ _ z => by cases z)
      (fun p e R s m args below meth c Q n0 F hret => ?_)
    rw [m1] at F hret ⊢
    rw [mc_String_isLatin1] at F hret
    exact cuts_s (K := 400) (M := 19) (D := D_String_isLatin1 N) (B := fun _ _ _ _ _ => none) F hret (chkT_ok chk_String_isLatin1) (hM_String_isLatin1 N) (fun _ _ _ _ _ z => by cases z) (hD_String_isLatin1 N) N 0 _ _ _ hf
  · cases hf
def T_StringLatin1_charAt : List (List (Option RW)) := [
  [some (.iload_n 1, 1, [1], 0, 0), some (.aload_n 0, 1, [0], 0, 0), some (.arraylength, 1, [], 0, 0), some (.invokestatic 9, 3, [2, 267, 2, 3], 0, 0), none, none, some (.aload_n 0, 1, [0], 0, 0), some (.iload_n 1, 1, [1], 0, 0), some (.baload, 1, [], 0, 0), some (.sipush 255, 3, [], 255, 0), none, none, some (.iand, 1, [], 0, 0), some (.i2c, 1, [], 0, 0), some (.ireturn, 1, [], 0, 0)]]
def f_StringLatin1_charAt (N : Nat) (q0 : Nat) (a1 : Int32) (h : MH) : Option (Int32 × MH) :=
  (f_String_checkIndex N a1 (nI (jsB.getD q0 []).length) h).bind (fun x1 =>
  if inB a1 ((jsB.getD q0 []).length) = true then
  (match narOK 3 ((((((jsB.getD q0 []).getD (iN a1) 0) &&& 255)).toUInt32 % 65536).toInt32) with
  | true => some ((((((jsB.getD q0 []).getD (iN a1) 0) &&& 255)).toUInt32 % 65536).toInt32, x1)
  | false => none)
  else none)
def C_StringLatin1_charAt (N : Nat) : MC := (KDL, false, (fun _ => 0), jsB, (fun _ _ _ => none), (fun _ _ _ => none), (fun _ _ _ => none), (fun j => match Nat.beq j 267 with
    | true => w_String_checkIndex (f_String_checkIndex N)
    | false => fun _ _ => none))
def D_StringLatin1_charAt (N : Nat) (n pc : Nat) (lv : ML) (st : List MV) (h : MH) : Option (Int32 × MH) :=
  match Nat.beq pc 0 with
  | true => (match lk lv 0, lk lv 1, st with
    | some (.inr (.inr (9, q0, 0))), some (.inl a1), [] => f_StringLatin1_charAt N q0 a1 h
    | _, _, _ => none)
  | false => none
set_option maxRecDepth 1000000 in
theorem E_StringLatin1_charAt_0 (N : Nat) (n : Nat) (q0 : Nat) (a1 : Int32) (h : MH) : seg (C_StringLatin1_charAt N) 2 3 rI T_StringLatin1_charAt [0] (fun q lv st h => match Nat.ble 1 q with
    | true => D_StringLatin1_charAt N n q lv st h
    | false => none) 400 true 0 [(0, .inr (.inr (9, q0, 0))), (1, .inl a1)] [] h = f_StringLatin1_charAt N q0 a1 h := (rfl)
set_option maxRecDepth 1000000 in
theorem chk_StringLatin1_charAt : chkT 15 false prog_19_method_2_code T_StringLatin1_charAt = true := by decide +kernel
theorem mc_StringLatin1_charAt : mC 268 = prog_19_method_2_code := by rfl
theorem mx_StringLatin1_charAt : mL 268 = 2 ∧ mR 268 = some .char ∧ mK 268 = 0 ∧ (mN 268).cls = cN 15 := by decide +kernel
theorem hD_StringLatin1_charAt (N : Nat) {r : Int32 × MH} : ∀ n pc lv st h, D_StringLatin1_charAt N n pc lv st h = some r → ∃ lv', (∀ q ∈ lv', q ∈ lv) ∧ seg (C_StringLatin1_charAt N) 2 3 rI T_StringLatin1_charAt [0] (fun q lv st h => match Nat.ble (pc + 1) q with
    | true => D_StringLatin1_charAt N n q lv st h
    | false => none) 400 true pc lv' st h = some r := by
  intro n pc lv st h hf
  unfold D_StringLatin1_charAt at hf
  split at hf
  · rename_i hb
    have hb := Nat.eq_of_beq_eq_true hb
    subst hb
    split at hf
    · rename_i y0 y1 e0 e1
      exact ⟨_, (sub_cons e0 (sub_cons e1 sub_nil)), (E_StringLatin1_charAt_0 N n _ _ h).trans hf⟩
    · cases hf
  · skip
    cases hf
theorem hM_StringLatin1_charAt (N : Nat) {r : Int32 × MH} : ∀ n pc lv st h, D_StringLatin1_charAt N n pc lv st h = some r → pc < 15 := by
  intro n pc lv st h hf
  unfold D_StringLatin1_charAt at hf
  split at hf
  · rename_i hb
    rw [Nat.eq_of_beq_eq_true hb]
    decide
  · skip
    cases hf
theorem s_StringLatin1_charAt {l : Launch} {E : EV} {N : Nat} {as : List MV} {h : MH} {r : Int32 × MH} (hf : w_StringLatin1_charAt (f_StringLatin1_charAt N) as h = some r) : SndM l E false 2 268 as h (some (.inl r.1)) r.2 := by
  unfold w_StringLatin1_charAt at hf
  split at hf
  · obtain ⟨m1, m2, m3, m4⟩ := mx_StringLatin1_charAt
    refine snd_of (C := C_StringLatin1_charAt N) (own := 15) (rz := 3) (lim := 115) rI_eq m2 m4 pl_268 (TB_in _ cw_268 rfl) ⟨(fun z => by rw [m3] at z; cases z), (fun z => by rw [m3] at z; cases z)⟩ (fun z => by cases z) KDL_take rfl rfl (fun z => by cases z) (fun z => by cases z) (fun _ => rfl) (by rw [m1]; exact Nat.le_of_ble_eq_true rfl)
      (fun _ _ _ _ z => by cases z)
      (fun _ _ _ _ z => by cases z)
      (fun _ _ _ _ z => by cases z)
      (fun j as h x z => by
      dsimp only [C_StringLatin1_charAt] at z
      cases hb : Nat.beq j 267 with
      | true =>
        have hb := Nat.eq_of_beq_eq_true hb
        subst hb
        exact ⟨1, by decide, (fun z => by cases z), s_String_checkIndex z⟩
      | false =>
        rw [hb] at z
        dsimp only at z
        cases z)
      (fun p e R s m args below meth c Q n0 F hret => ?_)
    rw [m1] at F hret ⊢
    rw [mc_StringLatin1_charAt] at F hret
    exact cuts_s (K := 400) (M := 15) (D := D_StringLatin1_charAt N) (B := fun _ _ _ _ _ => none) F hret (chkT_ok chk_StringLatin1_charAt) (hM_StringLatin1_charAt N) (fun _ _ _ _ _ z => by cases z) (hD_StringLatin1_charAt N) N 0 _ _ _ hf
  · cases hf
def T_String_charAt : List (List (Option RW)) := [
  [some (.aload_n 0, 1, [0], 0, 0), some (.invokevirtual 492, 3, [6, 266, 1, 0], 0, 0), none, none, some (.ifCond .eq 12, 3, [16], 0, 0), none, none, some (.aload_n 0, 1, [0], 0, 0), some (.getfield 9, 3, [4], 0, 0), none, none, some (.iload_n 1, 1, [1], 0, 0), some (.invokestatic 495, 3, [2, 268, 2, 0], 0, 0), none, none, some (.ireturn, 1, [], 0, 0), some (.aload_n 0, 1, [0], 0, 0), some (.getfield 9, 3, [4], 0, 0), none, none, some (.iload_n 1, 1, [1], 0, 0), some (.invokestatic 498, 3, [2, 271, 2, 0], 0, 0), none, none, some (.ireturn, 1, [], 0, 0)]]
def f_String_charAt (N : Nat) (q0 : Nat) (a1 : Int32) (h : MH) : Option (Int32 × MH) :=
  (f_String_isLatin1 N q0 h).bind (fun x1 =>
  if x1.1 = 0 then
  (none)
  else
  ((f_StringLatin1_charAt N q0 a1 x1.2).bind (fun x2 =>
  match narOK 3 x2.1 with
  | true => some (x2.1, x2.2)
  | false => none)))
def C_String_charAt (N : Nat) : MC := (KDL, false, (fun _ => 0), jsB, (fun j => match Nat.beq j 266 with
    | true => w_String_isLatin1 (f_String_isLatin1 N)
    | false => match Nat.beq j 268 with
    | true => w_StringLatin1_charAt (f_StringLatin1_charAt N)
    | false => fun _ _ => none), (fun _ _ _ => none), (fun _ _ _ => none), (fun _ _ _ => none))
def D_String_charAt (N : Nat) (n pc : Nat) (lv : ML) (st : List MV) (h : MH) : Option (Int32 × MH) :=
  match Nat.beq pc 0 with
  | true => (match lk lv 0, lk lv 1, st with
    | some (.inr (.inr (8, q0, 0))), some (.inl a1), [] => f_String_charAt N q0 a1 h
    | _, _, _ => none)
  | false => none
set_option maxRecDepth 1000000 in
theorem E_String_charAt_0 (N : Nat) (n : Nat) (q0 : Nat) (a1 : Int32) (h : MH) : seg (C_String_charAt N) 2 3 rI T_String_charAt [0] (fun q lv st h => match Nat.ble 1 q with
    | true => D_String_charAt N n q lv st h
    | false => none) 400 true 0 [(0, .inr (.inr (8, q0, 0))), (1, .inl a1)] [] h = f_String_charAt N q0 a1 h := (rfl)
set_option maxRecDepth 1000000 in
theorem chk_String_charAt : chkT 14 false prog_18_method_56_code T_String_charAt = true := by decide +kernel
theorem mc_String_charAt : mC 264 = prog_18_method_56_code := by rfl
theorem mx_String_charAt : mL 264 = 2 ∧ mR 264 = some .char ∧ mK 264 = 2 ∧ (mN 264).cls = cN 14 := by decide +kernel
theorem hD_String_charAt (N : Nat) {r : Int32 × MH} : ∀ n pc lv st h, D_String_charAt N n pc lv st h = some r → ∃ lv', (∀ q ∈ lv', q ∈ lv) ∧ seg (C_String_charAt N) 2 3 rI T_String_charAt [0] (fun q lv st h => match Nat.ble (pc + 1) q with
    | true => D_String_charAt N n q lv st h
    | false => none) 400 true pc lv' st h = some r := by
  intro n pc lv st h hf
  unfold D_String_charAt at hf
  split at hf
  · rename_i hb
    have hb := Nat.eq_of_beq_eq_true hb
    subst hb
    split at hf
    · rename_i y0 y1 e0 e1
      exact ⟨_, (sub_cons e0 (sub_cons e1 sub_nil)), (E_String_charAt_0 N n _ _ h).trans hf⟩
    · cases hf
  · skip
    cases hf
theorem hM_String_charAt (N : Nat) {r : Int32 × MH} : ∀ n pc lv st h, D_String_charAt N n pc lv st h = some r → pc < 25 := by
  intro n pc lv st h hf
  unfold D_String_charAt at hf
  split at hf
  · rename_i hb
    rw [Nat.eq_of_beq_eq_true hb]
    decide
  · skip
    cases hf
theorem s_String_charAt {l : Launch} {E : EV} {N : Nat} {as : List MV} {h : MH} {r : Int32 × MH} (hf : w_String_charAt (f_String_charAt N) as h = some r) : SndM l E false 3 264 as h (some (.inl r.1)) r.2 := by
  unfold w_String_charAt at hf
  split at hf
  · obtain ⟨m1, m2, m3, m4⟩ := mx_String_charAt
    refine snd_of (C := C_String_charAt N) (own := 14) (rz := 3) (lim := 115) rI_eq m2 m4 pl_264 (TB_in _ cw_264 rfl) ⟨(fun z => by rw [m3] at z; cases z), (fun _ => ⟨_, _, rfl⟩)⟩ (fun z => by cases z) KDL_take rfl rfl (fun z => by cases z) (fun z => by cases z) (fun _ => rfl) (by rw [m1]; exact Nat.le_of_ble_eq_true rfl)
      (fun j as h x z => by
      dsimp only [C_String_charAt] at z
      cases hb : Nat.beq j 266 with
      | true =>
        have hb := Nat.eq_of_beq_eq_true hb
        subst hb
        exact ⟨0, by decide, (fun z => by cases z), s_String_isLatin1 z⟩
      | false =>
        rw [hb] at z
        dsimp only at z
        cases hb : Nat.beq j 268 with
        | true =>
          have hb := Nat.eq_of_beq_eq_true hb
          subst hb
          exact ⟨2, by decide, (fun z => by cases z), s_StringLatin1_charAt z⟩
        | false =>
          rw [hb] at z
          dsimp only at z
          cases z)
      (fun _ _ _ _ z => by cases z)
      (fun _ _ _ _ z => by cases z)
      (fun _ _ _ _ z => by cases z)
      (fun p e R s m args below meth c Q n0 F hret => ?_)
    rw [m1] at F hret ⊢
    rw [mc_String_charAt] at F hret
    exact cuts_s (K := 400) (M := 25) (D := D_String_charAt N) (B := fun _ _ _ _ _ => none) F hret (chkT_ok chk_String_charAt) (hM_String_charAt N) (fun _ _ _ _ _ z => by cases z) (hD_String_charAt N) N 0 _ _ _ hf
  · cases hf
def T_Reader_isWord : List (List (Option RW)) := [
  [some (.aload_n 0, 1, [0], 0, 0), some (.getfield 22, 3, [7, 3, 0], 0, 0), none, none, some (.iconst 1, 1, [], 1, 0), some (.if_icmp .ne 19, 3, [24], 0, 0), none, none, some (.aload_n 0, 1, [0], 0, 0), some (.getfield 28, 3, [7, 5, 0], 0, 0), none, none, some (.aload_n 0, 1, [0], 0, 0), some (.getfield 25, 3, [7, 4, 0], 0, 0), none, none, some (.isub, 1, [], 0, 0), some (.aload_n 1, 1, [1], 0, 0), some (.invokevirtual 89, 3, [6, 263, 1, 0], 0, 0), none, none, some (.if_icmp .eq 5, 3, [26], 0, 0), none, none, some (.iconst 0, 1, [], 0, 0), some (.ireturn, 1, [], 0, 0), some (.iconst 0, 1, [], 0, 0), some (.istore_n 2, 1, [2], 0, 0), some (.iload_n 2, 1, [2], 0, 0), some (.aload_n 1, 1, [1], 0, 0), some (.invokevirtual 89, 3, [6, 263, 1, 0], 0, 0), none],
  [none, some (.if_icmp .ge 30, 3, [63], 0, 0), none, none, some (.aload_n 0, 1, [0], 0, 0), some (.getfield 9, 3, [7, 0, 2, 3, 600, 1], 0, 0), none, none, some (.aload_n 0, 1, [0], 0, 0), some (.getfield 25, 3, [7, 4, 0], 0, 0), none, none, some (.iload_n 2, 1, [2], 0, 0), some (.iadd, 1, [], 0, 0), some (.baload, 1, [], 0, 0), some (.aload_n 1, 1, [1], 0, 0), some (.iload_n 2, 1, [2], 0, 0), some (.invokevirtual 95, 3, [6, 264, 2, 0], 0, 0), none, none, some (.if_icmp .eq 5, 3, [57], 0, 0), none, none, some (.iconst 0, 1, [], 0, 0), some (.ireturn, 1, [], 0, 0), some (.iinc 2 1, 3, [2], 1, 0), none, none, some (.goto (-32), 3, [28], 0, 0), none, none, some (.iconst 1, 1, [], 1, 0)],
  [some (.ireturn, 1, [], 0, 0)]]
def F_Reader_isWord_28 (N : Nat) (bk : (Nat → Int32 → MH → Option (Int32 × MH))) (q1 : Nat) (a2 : Int32) (h : MH) : Option (Int32 × MH) :=
  (f_String_length N q1 h).bind (fun x2 =>
  if x2.1 ≤ a2 then
  (some (1, x2.2))
  else
  (if inB ((gI x2.2 3 4) + a2) 600 = true then
  ((f_String_charAt N q1 a2 x2.2).bind (fun x3 =>
  if (gI x2.2 4 (iN ((gI x2.2 3 4) + a2))) = x3.1 then
  (let v4 : Int32 := a2 + 1
  bk q1 v4 x3.2)
  else
  (some (0, x3.2))))
  else none))
def F_Reader_isWord_0 (N : Nat) (bk : (Nat → Int32 → MH → Option (Int32 × MH))) (q1 : Nat) (h : MH) : Option (Int32 × MH) :=
  if (gI h 3 3) = 1 then
  ((f_String_length N q1 h).bind (fun x1 =>
  if ((gI h 3 5) - (gI h 3 4)) = x1.1 then
  (F_Reader_isWord_28 N bk q1 0 x1.2)
  else
  (some (0, x1.2))))
  else
  (some (0, h))
def L_Reader_isWord (N : Nat) : Nat → (Nat → Int32 → MH → Option (Int32 × MH))
  | 0 => fun _ _ _ => none
  | n + 1 => F_Reader_isWord_28 N (L_Reader_isWord N n)
def f_Reader_isWord (N : Nat) (q1 : Nat) (h : MH) : Option (Int32 × MH) := F_Reader_isWord_0 N (L_Reader_isWord N N) q1 h
def C_Reader_isWord (N : Nat) : MC := (KDL, false, (fun _ => 0), jsB, (fun j => match Nat.beq j 263 with
    | true => w_String_length (f_String_length N)
    | false => match Nat.beq j 264 with
    | true => w_String_charAt (f_String_charAt N)
    | false => fun _ _ => none), (fun _ _ _ => none), (fun _ _ _ => none), (fun _ _ _ => none))
def D_Reader_isWord (N : Nat) (n pc : Nat) (lv : ML) (st : List MV) (h : MH) : Option (Int32 × MH) :=
  match Nat.beq pc 0 with
  | true => (match lk lv 0, lk lv 1, st with
    | some (.inr (.inr (0, 7, 3))), some (.inr (.inr (8, q1, 0))), [] => F_Reader_isWord_0 N (L_Reader_isWord N n) q1 h
    | _, _, _ => none)
  | false => match Nat.beq pc 28 with
  | true => (match lk lv 0, lk lv 1, lk lv 2, st with
    | some (.inr (.inr (0, 7, 3))), some (.inr (.inr (8, q1, 0))), some (.inl a2), [] => F_Reader_isWord_28 N (L_Reader_isWord N n) q1 a2 h
    | _, _, _, _ => none)
  | false => none
def B_Reader_isWord (N : Nat) (n pc : Nat) (lv : ML) (st : List MV) (h : MH) : Option (Int32 × MH) :=
  match Nat.beq pc 28 with
  | true => (match lk lv 0, lk lv 1, lk lv 2, st with
    | some (.inr (.inr (0, 7, 3))), some (.inr (.inr (8, q1, 0))), some (.inl a2), [] => ((L_Reader_isWord N n)) q1 a2 h
    | _, _, _, _ => none)
  | false => none
set_option maxRecDepth 1000000 in
theorem E_Reader_isWord_0 (N : Nat) (n : Nat) (q1 : Nat) (h : MH) : seg (C_Reader_isWord N) 3 1 rI T_Reader_isWord [0, 28] (fun q lv st h => match Nat.ble 1 q with
    | true => D_Reader_isWord N n q lv st h
    | false => B_Reader_isWord N n q lv st h) 400 true 0 [(0, .inr (.inr (0, 7, 3))), (1, .inr (.inr (8, q1, 0)))] [] h = F_Reader_isWord_0 N (L_Reader_isWord N n) q1 h := (rfl)
set_option maxRecDepth 1000000 in
theorem E_Reader_isWord_28 (N : Nat) (n : Nat) (q1 : Nat) (a2 : Int32) (h : MH) : seg (C_Reader_isWord N) 3 1 rI T_Reader_isWord [0, 28] (fun q lv st h => match Nat.ble 29 q with
    | true => D_Reader_isWord N n q lv st h
    | false => B_Reader_isWord N n q lv st h) 400 true 28 [(0, .inr (.inr (0, 7, 3))), (1, .inr (.inr (8, q1, 0))), (2, .inl a2)] [] h = F_Reader_isWord_28 N (L_Reader_isWord N n) q1 a2 h := (rfl)
set_option maxRecDepth 1000000 in
theorem chk_Reader_isWord : chkT 7 false prog_9_method_13_code T_Reader_isWord = true := by decide +kernel
theorem mc_Reader_isWord : mC 63 = prog_9_method_13_code := by rfl
theorem mx_Reader_isWord : mL 63 = 3 ∧ mR 63 = some .boolean ∧ mK 63 = 1 ∧ (mN 63).cls = cN 7 := by decide +kernel
theorem hD_Reader_isWord (N : Nat) {r : Int32 × MH} : ∀ n pc lv st h, D_Reader_isWord N n pc lv st h = some r → ∃ lv', (∀ q ∈ lv', q ∈ lv) ∧ seg (C_Reader_isWord N) 3 1 rI T_Reader_isWord [0, 28] (fun q lv st h => match Nat.ble (pc + 1) q with
    | true => D_Reader_isWord N n q lv st h
    | false => B_Reader_isWord N n q lv st h) 400 true pc lv' st h = some r := by
  intro n pc lv st h hf
  unfold D_Reader_isWord at hf
  split at hf
  · rename_i hb
    have hb := Nat.eq_of_beq_eq_true hb
    subst hb
    split at hf
    · rename_i y0 e0 e1
      exact ⟨_, (sub_cons e0 (sub_cons e1 sub_nil)), (E_Reader_isWord_0 N n _ h).trans hf⟩
    · cases hf
  · skip
    split at hf
    · rename_i hb
      have hb := Nat.eq_of_beq_eq_true hb
      subst hb
      split at hf
      · rename_i y0 y1 e0 e1 e2
        exact ⟨_, (sub_cons e0 (sub_cons e1 (sub_cons e2 sub_nil))), (E_Reader_isWord_28 N n _ _ h).trans hf⟩
      · cases hf
    · skip
      cases hf
theorem hM_Reader_isWord (N : Nat) {r : Int32 × MH} : ∀ n pc lv st h, D_Reader_isWord N n pc lv st h = some r → pc < 65 := by
  intro n pc lv st h hf
  unfold D_Reader_isWord at hf
  split at hf
  · rename_i hb
    rw [Nat.eq_of_beq_eq_true hb]
    decide
  · skip
    split at hf
    · rename_i hb
      rw [Nat.eq_of_beq_eq_true hb]
      decide
    · skip
      cases hf
theorem hB_Reader_isWord (N : Nat) {r : Int32 × MH} : ∀ n pc lv st h, B_Reader_isWord N n pc lv st h = some r → ∃ k, n = k + 1 ∧ D_Reader_isWord N k pc lv st h = some r := by
  intro n pc lv st h hf
  unfold B_Reader_isWord at hf
  split at hf
  · rename_i hb
    have hb := Nat.eq_of_beq_eq_true hb
    subst hb
    cases n with
    | zero =>
      split at hf
      · cases hf
      · cases hf
    | succ k =>
      refine ⟨k, rfl, ?_⟩
      exact hf
  · skip
    cases hf
theorem s_Reader_isWord {l : Launch} {E : EV} {N : Nat} {as : List MV} {h : MH} {r : Int32 × MH} (hf : w_Reader_isWord (f_Reader_isWord N) as h = some r) : SndM l E false 4 63 as h (some (.inl r.1)) r.2 := by
  unfold w_Reader_isWord at hf
  split at hf
  · obtain ⟨m1, m2, m3, m4⟩ := mx_Reader_isWord
    refine snd_of (C := C_Reader_isWord N) (own := 7) (rz := 1) (lim := 115) rI_eq m2 m4 pl_63 (TB_in _ cw_63 rfl) ⟨(fun _ => ⟨_, _, _, _, _, _, rfl, rfl, by rw [m4]; rfl⟩), (fun z => by rw [m3] at z; cases z)⟩ (fun z => by cases z) KDL_take rfl rfl (fun z => by cases z) (fun z => by cases z) (fun _ => rfl) (by rw [m1]; exact Nat.le_of_ble_eq_true rfl)
      (fun j as h x z => by
      dsimp only [C_Reader_isWord] at z
      cases hb : Nat.beq j 263 with
      | true =>
        have hb := Nat.eq_of_beq_eq_true hb
        subst hb
        exact ⟨1, by decide, (fun z => by cases z), s_String_length z⟩
      | false =>
        rw [hb] at z
        dsimp only at z
        cases hb : Nat.beq j 264 with
        | true =>
          have hb := Nat.eq_of_beq_eq_true hb
          subst hb
          exact ⟨3, by decide, (fun z => by cases z), s_String_charAt z⟩
        | false =>
          rw [hb] at z
          dsimp only at z
          cases z)
      (fun _ _ _ _ z => by cases z)
      (fun _ _ _ _ z => by cases z)
      (fun _ _ _ _ z => by cases z)
      (fun p e R s m args below meth c Q n0 F hret => ?_)
    rw [m1] at F hret ⊢
    rw [mc_Reader_isWord] at F hret
    exact cuts_s (K := 400) (M := 65) (D := D_Reader_isWord N) (B := B_Reader_isWord N) F hret (chkT_ok chk_Reader_isWord) (hM_Reader_isWord N) (hB_Reader_isWord N) (hD_Reader_isWord N) N 0 _ _ _ hf
  · cases hf
def T_Reader_passWord : List (List (Option RW)) := [
  [some (.aload_n 0, 1, [0], 0, 0), some (.aload_n 1, 1, [1], 0, 0), some (.invokevirtual 101, 3, [0, 63, 2, 0], 0, 0), none, none, some (.ifCond .ne 13, 3, [18], 0, 0), none, none, some (.aload_n 0, 1, [0], 0, 0), some (.iconst 2, 1, [], 2, 0), some (.aload_n 0, 1, [0], 0, 0), some (.getfield 25, 3, [7, 4, 0], 0, 0), none, none, some (.invokevirtual 85, 3, [0, 56, 3, 0], 0, 0), none, none, some (.ireturn, 1, [], 0, 0), some (.aload_n 0, 1, [0], 0, 0), some (.invokevirtual 65, 3, [0, 57, 1, 3], 0, 0), none, none, some (.iconst 1, 1, [], 1, 0), some (.ireturn, 1, [], 0, 0)]]
def f_Reader_passWord (N : Nat) (q1 : Nat) (h : MH) : Option (Int32 × MH) :=
  (f_Reader_isWord N q1 h).bind (fun x1 =>
  if x1.1 = 0 then
  ((f_Reader_fail N 2 (gI x1.2 3 4) x1.2).bind (fun x2 =>
  match narOK 1 x2.1 with
  | true => some (x2.1, x2.2)
  | false => none))
  else
  ((f_Reader_advance N x1.2).bind (fun x3 =>
  some (1, x3))))
def C_Reader_passWord (N : Nat) : MC := (KDL, false, (fun _ => 0), jsB, (fun j => match Nat.beq j 56 with
    | true => w_Reader_fail (f_Reader_fail N)
    | false => match Nat.beq j 63 with
    | true => w_Reader_isWord (f_Reader_isWord N)
    | false => fun _ _ => none), (fun _ _ _ => none), (fun _ _ _ => none), (fun j => match Nat.beq j 57 with
    | true => w_Reader_advance (f_Reader_advance N)
    | false => fun _ _ => none))
def D_Reader_passWord (N : Nat) (n pc : Nat) (lv : ML) (st : List MV) (h : MH) : Option (Int32 × MH) :=
  match Nat.beq pc 0 with
  | true => (match lk lv 0, lk lv 1, st with
    | some (.inr (.inr (0, 7, 3))), some (.inr (.inr (8, q1, 0))), [] => f_Reader_passWord N q1 h
    | _, _, _ => none)
  | false => none
set_option maxRecDepth 1000000 in
theorem E_Reader_passWord_0 (N : Nat) (n : Nat) (q1 : Nat) (h : MH) : seg (C_Reader_passWord N) 2 1 rI T_Reader_passWord [0] (fun q lv st h => match Nat.ble 1 q with
    | true => D_Reader_passWord N n q lv st h
    | false => none) 400 true 0 [(0, .inr (.inr (0, 7, 3))), (1, .inr (.inr (8, q1, 0)))] [] h = f_Reader_passWord N q1 h := (rfl)
set_option maxRecDepth 1000000 in
theorem chk_Reader_passWord : chkT 7 false prog_9_method_15_code T_Reader_passWord = true := by decide +kernel
theorem mc_Reader_passWord : mC 65 = prog_9_method_15_code := by rfl
theorem mx_Reader_passWord : mL 65 = 2 ∧ mR 65 = some .boolean ∧ mK 65 = 1 ∧ (mN 65).cls = cN 7 := by decide +kernel
theorem hD_Reader_passWord (N : Nat) {r : Int32 × MH} : ∀ n pc lv st h, D_Reader_passWord N n pc lv st h = some r → ∃ lv', (∀ q ∈ lv', q ∈ lv) ∧ seg (C_Reader_passWord N) 2 1 rI T_Reader_passWord [0] (fun q lv st h => match Nat.ble (pc + 1) q with
    | true => D_Reader_passWord N n q lv st h
    | false => none) 400 true pc lv' st h = some r := by
  intro n pc lv st h hf
  unfold D_Reader_passWord at hf
  split at hf
  · rename_i hb
    have hb := Nat.eq_of_beq_eq_true hb
    subst hb
    split at hf
    · rename_i y0 e0 e1
      exact ⟨_, (sub_cons e0 (sub_cons e1 sub_nil)), (E_Reader_passWord_0 N n _ h).trans hf⟩
    · cases hf
  · skip
    cases hf
theorem hM_Reader_passWord (N : Nat) {r : Int32 × MH} : ∀ n pc lv st h, D_Reader_passWord N n pc lv st h = some r → pc < 24 := by
  intro n pc lv st h hf
  unfold D_Reader_passWord at hf
  split at hf
  · rename_i hb
    rw [Nat.eq_of_beq_eq_true hb]
    decide
  · skip
    cases hf
theorem s_Reader_passWord {l : Launch} {E : EV} {N : Nat} {as : List MV} {h : MH} {r : Int32 × MH} (hf : w_Reader_passWord (f_Reader_passWord N) as h = some r) : SndM l E false 5 65 as h (some (.inl r.1)) r.2 := by
  unfold w_Reader_passWord at hf
  split at hf
  · obtain ⟨m1, m2, m3, m4⟩ := mx_Reader_passWord
    refine snd_of (C := C_Reader_passWord N) (own := 7) (rz := 1) (lim := 115) rI_eq m2 m4 pl_65 (TB_in _ cw_65 rfl) ⟨(fun _ => ⟨_, _, _, _, _, _, rfl, rfl, by rw [m4]; rfl⟩), (fun z => by rw [m3] at z; cases z)⟩ (fun z => by cases z) KDL_take rfl rfl (fun z => by cases z) (fun z => by cases z) (fun _ => rfl) (by rw [m1]; exact Nat.le_of_ble_eq_true rfl)
      (fun j as h x z => by
      dsimp only [C_Reader_passWord] at z
      cases hb : Nat.beq j 56 with
      | true =>
        have hb := Nat.eq_of_beq_eq_true hb
        subst hb
        exact ⟨0, by decide, (fun z => by cases z), s_Reader_fail z⟩
      | false =>
        rw [hb] at z
        dsimp only at z
        cases hb : Nat.beq j 63 with
        | true =>
          have hb := Nat.eq_of_beq_eq_true hb
          subst hb
          exact ⟨4, by decide, (fun z => by cases z), s_Reader_isWord z⟩
        | false =>
          rw [hb] at z
          dsimp only at z
          cases z)
      (fun _ _ _ _ z => by cases z)
      (fun _ _ _ _ z => by cases z)
      (fun j as h x z => by
      dsimp only [C_Reader_passWord] at z
      cases hb : Nat.beq j 57 with
      | true =>
        have hb := Nat.eq_of_beq_eq_true hb
        subst hb
        exact ⟨2, by decide, (fun z => by cases z), s_Reader_advance z⟩
      | false =>
        rw [hb] at z
        dsimp only at z
        cases z)
      (fun p e R s m args below meth c Q n0 F hret => ?_)
    rw [m1] at F hret ⊢
    rw [mc_Reader_passWord] at F hret
    exact cuts_s (K := 400) (M := 24) (D := D_Reader_passWord N) (B := fun _ _ _ _ _ => none) F hret (chkT_ok chk_Reader_passWord) (hM_Reader_passWord N) (fun _ _ _ _ _ z => by cases z) (hD_Reader_passWord N) N 0 _ _ _ hf
  · cases hf
def T_S_isWithin : List (List (Option RW)) := [
  [some (.iload_n 0, 1, [0], 0, 0), some (.iload_n 1, 1, [1], 0, 0), some (.if_icmp .lt 12, 3, [14], 0, 0), none, none, some (.iload_n 0, 1, [0], 0, 0), some (.iload_n 2, 1, [2], 0, 0), some (.if_icmp .gt 7, 3, [14], 0, 0), none, none, some (.iconst 1, 1, [], 1, 0), some (.goto 4, 3, [15], 0, 0), none, none, some (.iconst 0, 1, [], 0, 0), some (.ireturn, 1, [], 0, 0)]]
def f_S_isWithin (N : Nat) (a0 : Int32) (a1 : Int32) (a2 : Int32) (h : MH) : Option (Int32 × MH) :=
  if a0 < a1 then
  (some (0, h))
  else
  (if a2 < a0 then
  (some (0, h))
  else
  (some (1, h)))
def C_S_isWithin (N : Nat) : MC := (KDL, false, (fun _ => 0), jsB, (fun _ _ _ => none), (fun _ _ _ => none), (fun _ _ _ => none), (fun _ _ _ => none))
def D_S_isWithin (N : Nat) (n pc : Nat) (lv : ML) (st : List MV) (h : MH) : Option (Int32 × MH) :=
  match Nat.beq pc 0 with
  | true => (match lk lv 0, lk lv 1, lk lv 2, st with
    | some (.inl a0), some (.inl a1), some (.inl a2), [] => f_S_isWithin N a0 a1 a2 h
    | _, _, _, _ => none)
  | false => none
set_option maxRecDepth 1000000 in
theorem E_S_isWithin_0 (N : Nat) (n : Nat) (a0 : Int32) (a1 : Int32) (a2 : Int32) (h : MH) : seg (C_S_isWithin N) 3 1 rI T_S_isWithin [0] (fun q lv st h => match Nat.ble 1 q with
    | true => D_S_isWithin N n q lv st h
    | false => none) 400 true 0 [(0, .inl a0), (1, .inl a1), (2, .inl a2)] [] h = f_S_isWithin N a0 a1 a2 h := (rfl)
set_option maxRecDepth 1000000 in
theorem chk_S_isWithin : chkT 11 false prog_1_method_43_code T_S_isWithin = true := by decide +kernel
theorem mc_S_isWithin : mC 150 = prog_1_method_43_code := by rfl
theorem mx_S_isWithin : mL 150 = 3 ∧ mR 150 = some .boolean ∧ mK 150 = 0 ∧ (mN 150).cls = cN 11 := by decide +kernel
theorem hD_S_isWithin (N : Nat) {r : Int32 × MH} : ∀ n pc lv st h, D_S_isWithin N n pc lv st h = some r → ∃ lv', (∀ q ∈ lv', q ∈ lv) ∧ seg (C_S_isWithin N) 3 1 rI T_S_isWithin [0] (fun q lv st h => match Nat.ble (pc + 1) q with
    | true => D_S_isWithin N n q lv st h
    | false => none) 400 true pc lv' st h = some r := by
  intro n pc lv st h hf
  unfold D_S_isWithin at hf
  split at hf
  · rename_i hb
    have hb := Nat.eq_of_beq_eq_true hb
    subst hb
    split at hf
    · rename_i y0 y1 y2 e0 e1 e2
      exact ⟨_, (sub_cons e0 (sub_cons e1 (sub_cons e2 sub_nil))), (E_S_isWithin_0 N n _ _ _ h).trans hf⟩
    · cases hf
  · skip
    cases hf
theorem hM_S_isWithin (N : Nat) {r : Int32 × MH} : ∀ n pc lv st h, D_S_isWithin N n pc lv st h = some r → pc < 16 := by
  intro n pc lv st h hf
  unfold D_S_isWithin at hf
  split at hf
  · rename_i hb
    rw [Nat.eq_of_beq_eq_true hb]
    decide
  · skip
    cases hf
theorem s_S_isWithin {l : Launch} {E : EV} {N : Nat} {as : List MV} {h : MH} {r : Int32 × MH} (hf : w_S_isWithin (f_S_isWithin N) as h = some r) : SndM l E false 0 150 as h (some (.inl r.1)) r.2 := by
  unfold w_S_isWithin at hf
  split at hf
  · obtain ⟨m1, m2, m3, m4⟩ := mx_S_isWithin
    refine snd_of (C := C_S_isWithin N) (own := 11) (rz := 1) (lim := 115) rI_eq m2 m4 pl_150 (TB_in _ cw_150 rfl) ⟨(fun z => by rw [m3] at z; cases z), (fun z => by rw [m3] at z; cases z)⟩ (fun z => by cases z) KDL_take rfl rfl (fun z => by cases z) (fun z => by cases z) (fun _ => rfl) (by rw [m1]; exact Nat.le_of_ble_eq_true rfl)
      (fun _ _ _ _ z => by cases z)
      (fun _ _ _ _ z => by cases z)
      (fun _ _ _ _ z => by cases z)
      (fun _ _ _ _ z => by cases z)
      (fun p e R s m args below meth c Q n0 F hret => ?_)
    rw [m1] at F hret ⊢
    rw [mc_S_isWithin] at F hret
    exact cuts_s (K := 400) (M := 16) (D := D_S_isWithin N) (B := fun _ _ _ _ _ => none) F hret (chkT_ok chk_S_isWithin) (hM_S_isWithin N) (fun _ _ _ _ _ z => by cases z) (hD_S_isWithin N) N 0 _ _ _ hf
  · cases hf
def T_Reader_seesNumber : List (List (Option RW)) := [
  [some (.aload_n 0, 1, [0], 0, 0), some (.getfield 22, 3, [7, 3, 0], 0, 0), none, none, some (.iconst 2, 1, [], 2, 0), some (.if_icmp .eq 13, 3, [18], 0, 0), none, none, some (.aload_n 0, 1, [0], 0, 0), some (.iconst 2, 1, [], 2, 0), some (.aload_n 0, 1, [0], 0, 0), some (.getfield 25, 3, [7, 4, 0], 0, 0), none, none, some (.invokevirtual 85, 3, [0, 56, 3, 0], 0, 0), none, none, some (.ireturn, 1, [], 0, 0), some (.aload_n 0, 1, [0], 0, 0), some (.getfield 31, 3, [7, 6, 0], 0, 0), none, none, some (.iload_n 1, 1, [1], 0, 0), some (.iload_n 2, 1, [2], 0, 0), some (.invokestatic 121, 3, [3, 150, 3, 0], 0, 0), none, none, some (.ifCond .ne 15, 3, [42], 0, 0), none, none, some (.aload_n 0, 1, [0], 0, 0), some (.iconst 4, 1, [], 4, 0)],
  [some (.aload_n 0, 1, [0], 0, 0), some (.getfield 25, 3, [7, 4, 0], 0, 0), none, none, some (.invokevirtual 85, 3, [0, 56, 3, 0], 0, 0), none, none, some (.ifCond .eq 7, 3, [46], 0, 0), none, none, some (.iconst 1, 1, [], 1, 0), some (.goto 4, 3, [47], 0, 0), none, none, some (.iconst 0, 1, [], 0, 0), some (.ireturn, 1, [], 0, 0)]]
def f_Reader_seesNumber (N : Nat) (a1 : Int32) (a2 : Int32) (h : MH) : Option (Int32 × MH) :=
  if (gI h 3 3) = 2 then
  ((f_S_isWithin N (gI h 3 6) a1 a2 h).bind (fun x1 =>
  if x1.1 = 0 then
  ((f_Reader_fail N 4 (gI x1.2 3 4) x1.2).bind (fun x2 =>
  if x2.1 = 0 then
  (some (0, x2.2))
  else
  (some (1, x2.2))))
  else
  (some (1, x1.2))))
  else
  ((f_Reader_fail N 2 (gI h 3 4) h).bind (fun x3 =>
  match narOK 1 x3.1 with
  | true => some (x3.1, x3.2)
  | false => none))
def C_Reader_seesNumber (N : Nat) : MC := (KDL, false, (fun _ => 0), jsB, (fun j => match Nat.beq j 56 with
    | true => w_Reader_fail (f_Reader_fail N)
    | false => match Nat.beq j 150 with
    | true => w_S_isWithin (f_S_isWithin N)
    | false => fun _ _ => none), (fun _ _ _ => none), (fun _ _ _ => none), (fun _ _ _ => none))
def D_Reader_seesNumber (N : Nat) (n pc : Nat) (lv : ML) (st : List MV) (h : MH) : Option (Int32 × MH) :=
  match Nat.beq pc 0 with
  | true => (match lk lv 0, lk lv 1, lk lv 2, st with
    | some (.inr (.inr (0, 7, 3))), some (.inl a1), some (.inl a2), [] => f_Reader_seesNumber N a1 a2 h
    | _, _, _, _ => none)
  | false => none
set_option maxRecDepth 1000000 in
theorem E_Reader_seesNumber_0 (N : Nat) (n : Nat) (a1 : Int32) (a2 : Int32) (h : MH) : seg (C_Reader_seesNumber N) 3 1 rI T_Reader_seesNumber [0] (fun q lv st h => match Nat.ble 1 q with
    | true => D_Reader_seesNumber N n q lv st h
    | false => none) 400 true 0 [(0, .inr (.inr (0, 7, 3))), (1, .inl a1), (2, .inl a2)] [] h = f_Reader_seesNumber N a1 a2 h := (rfl)
set_option maxRecDepth 1000000 in
theorem chk_Reader_seesNumber : chkT 7 false prog_9_method_16_code T_Reader_seesNumber = true := by decide +kernel
theorem mc_Reader_seesNumber : mC 66 = prog_9_method_16_code := by rfl
theorem mx_Reader_seesNumber : mL 66 = 3 ∧ mR 66 = some .boolean ∧ mK 66 = 1 ∧ (mN 66).cls = cN 7 := by decide +kernel
theorem hD_Reader_seesNumber (N : Nat) {r : Int32 × MH} : ∀ n pc lv st h, D_Reader_seesNumber N n pc lv st h = some r → ∃ lv', (∀ q ∈ lv', q ∈ lv) ∧ seg (C_Reader_seesNumber N) 3 1 rI T_Reader_seesNumber [0] (fun q lv st h => match Nat.ble (pc + 1) q with
    | true => D_Reader_seesNumber N n q lv st h
    | false => none) 400 true pc lv' st h = some r := by
  intro n pc lv st h hf
  unfold D_Reader_seesNumber at hf
  split at hf
  · rename_i hb
    have hb := Nat.eq_of_beq_eq_true hb
    subst hb
    split at hf
    · rename_i y0 y1 e0 e1 e2
      exact ⟨_, (sub_cons e0 (sub_cons e1 (sub_cons e2 sub_nil))), (E_Reader_seesNumber_0 N n _ _ h).trans hf⟩
    · cases hf
  · skip
    cases hf
theorem hM_Reader_seesNumber (N : Nat) {r : Int32 × MH} : ∀ n pc lv st h, D_Reader_seesNumber N n pc lv st h = some r → pc < 48 := by
  intro n pc lv st h hf
  unfold D_Reader_seesNumber at hf
  split at hf
  · rename_i hb
    rw [Nat.eq_of_beq_eq_true hb]
    decide
  · skip
    cases hf
theorem s_Reader_seesNumber {l : Launch} {E : EV} {N : Nat} {as : List MV} {h : MH} {r : Int32 × MH} (hf : w_Reader_seesNumber (f_Reader_seesNumber N) as h = some r) : SndM l E false 1 66 as h (some (.inl r.1)) r.2 := by
  unfold w_Reader_seesNumber at hf
  split at hf
  · obtain ⟨m1, m2, m3, m4⟩ := mx_Reader_seesNumber
    refine snd_of (C := C_Reader_seesNumber N) (own := 7) (rz := 1) (lim := 115) rI_eq m2 m4 pl_66 (TB_in _ cw_66 rfl) ⟨(fun _ => ⟨_, _, _, _, _, _, rfl, rfl, by rw [m4]; rfl⟩), (fun z => by rw [m3] at z; cases z)⟩ (fun z => by cases z) KDL_take rfl rfl (fun z => by cases z) (fun z => by cases z) (fun _ => rfl) (by rw [m1]; exact Nat.le_of_ble_eq_true rfl)
      (fun j as h x z => by
      dsimp only [C_Reader_seesNumber] at z
      cases hb : Nat.beq j 56 with
      | true =>
        have hb := Nat.eq_of_beq_eq_true hb
        subst hb
        exact ⟨0, by decide, (fun z => by cases z), s_Reader_fail z⟩
      | false =>
        rw [hb] at z
        dsimp only at z
        cases hb : Nat.beq j 150 with
        | true =>
          have hb := Nat.eq_of_beq_eq_true hb
          subst hb
          exact ⟨0, by decide, (fun z => by cases z), s_S_isWithin z⟩
        | false =>
          rw [hb] at z
          dsimp only at z
          cases z)
      (fun _ _ _ _ z => by cases z)
      (fun _ _ _ _ z => by cases z)
      (fun _ _ _ _ z => by cases z)
      (fun p e R s m args below meth c Q n0 F hret => ?_)
    rw [m1] at F hret ⊢
    rw [mc_Reader_seesNumber] at F hret
    exact cuts_s (K := 400) (M := 48) (D := D_Reader_seesNumber N) (B := fun _ _ _ _ _ => none) F hret (chkT_ok chk_Reader_seesNumber) (hM_Reader_seesNumber N) (fun _ _ _ _ _ z => by cases z) (hD_Reader_seesNumber N) N 0 _ _ _ hf
  · cases hf
def T_Reader_isSign : List (List (Option RW)) := [
  [some (.aload_n 0, 1, [0], 0, 0), some (.getfield 22, 3, [7, 3, 0], 0, 0), none, none, some (.iconst 3, 1, [], 3, 0), some (.if_icmp .ne 30, 3, [35], 0, 0), none, none, some (.aload_n 0, 1, [0], 0, 0), some (.getfield 25, 3, [7, 4, 0], 0, 0), none, none, some (.sipush 600, 3, [], 600, 0), none, none, some (.if_icmp .ge 20, 3, [35], 0, 0), none, none, some (.aload_n 0, 1, [0], 0, 0), some (.getfield 9, 3, [7, 0, 2, 3, 600, 1], 0, 0), none, none, some (.aload_n 0, 1, [0], 0, 0), some (.getfield 25, 3, [7, 4, 0], 0, 0), none, none, some (.baload, 1, [], 0, 0), some (.iload_n 1, 1, [1], 0, 0), some (.if_icmp .ne 7, 3, [35], 0, 0), none, none, some (.iconst 1, 1, [], 1, 0)],
  [some (.goto 4, 3, [36], 0, 0), none, none, some (.iconst 0, 1, [], 0, 0), some (.ireturn, 1, [], 0, 0)]]
def f_Reader_isSign (N : Nat) (a1 : Int32) (h : MH) : Option (Int32 × MH) :=
  if (gI h 3 3) = 3 then
  (if 600 ≤ (gI h 3 4) then
  (some (0, h))
  else
  (if inB (gI h 3 4) 600 = true then
  (if (gI h 4 (iN (gI h 3 4))) = a1 then
  (some (1, h))
  else
  (some (0, h)))
  else none))
  else
  (some (0, h))
def C_Reader_isSign (N : Nat) : MC := (KDL, false, (fun _ => 0), jsB, (fun _ _ _ => none), (fun _ _ _ => none), (fun _ _ _ => none), (fun _ _ _ => none))
def D_Reader_isSign (N : Nat) (n pc : Nat) (lv : ML) (st : List MV) (h : MH) : Option (Int32 × MH) :=
  match Nat.beq pc 0 with
  | true => (match lk lv 0, lk lv 1, st with
    | some (.inr (.inr (0, 7, 3))), some (.inl a1), [] => f_Reader_isSign N a1 h
    | _, _, _ => none)
  | false => none
set_option maxRecDepth 1000000 in
theorem E_Reader_isSign_0 (N : Nat) (n : Nat) (a1 : Int32) (h : MH) : seg (C_Reader_isSign N) 2 1 rI T_Reader_isSign [0] (fun q lv st h => match Nat.ble 1 q with
    | true => D_Reader_isSign N n q lv st h
    | false => none) 400 true 0 [(0, .inr (.inr (0, 7, 3))), (1, .inl a1)] [] h = f_Reader_isSign N a1 h := (rfl)
set_option maxRecDepth 1000000 in
theorem chk_Reader_isSign : chkT 7 false prog_9_method_12_code T_Reader_isSign = true := by decide +kernel
theorem mc_Reader_isSign : mC 62 = prog_9_method_12_code := by rfl
theorem mx_Reader_isSign : mL 62 = 2 ∧ mR 62 = some .boolean ∧ mK 62 = 1 ∧ (mN 62).cls = cN 7 := by decide +kernel
theorem hD_Reader_isSign (N : Nat) {r : Int32 × MH} : ∀ n pc lv st h, D_Reader_isSign N n pc lv st h = some r → ∃ lv', (∀ q ∈ lv', q ∈ lv) ∧ seg (C_Reader_isSign N) 2 1 rI T_Reader_isSign [0] (fun q lv st h => match Nat.ble (pc + 1) q with
    | true => D_Reader_isSign N n q lv st h
    | false => none) 400 true pc lv' st h = some r := by
  intro n pc lv st h hf
  unfold D_Reader_isSign at hf
  split at hf
  · rename_i hb
    have hb := Nat.eq_of_beq_eq_true hb
    subst hb
    split at hf
    · rename_i y0 e0 e1
      exact ⟨_, (sub_cons e0 (sub_cons e1 sub_nil)), (E_Reader_isSign_0 N n _ h).trans hf⟩
    · cases hf
  · skip
    cases hf
theorem hM_Reader_isSign (N : Nat) {r : Int32 × MH} : ∀ n pc lv st h, D_Reader_isSign N n pc lv st h = some r → pc < 37 := by
  intro n pc lv st h hf
  unfold D_Reader_isSign at hf
  split at hf
  · rename_i hb
    rw [Nat.eq_of_beq_eq_true hb]
    decide
  · skip
    cases hf
theorem s_Reader_isSign {l : Launch} {E : EV} {N : Nat} {as : List MV} {h : MH} {r : Int32 × MH} (hf : w_Reader_isSign (f_Reader_isSign N) as h = some r) : SndM l E false 0 62 as h (some (.inl r.1)) r.2 := by
  unfold w_Reader_isSign at hf
  split at hf
  · obtain ⟨m1, m2, m3, m4⟩ := mx_Reader_isSign
    refine snd_of (C := C_Reader_isSign N) (own := 7) (rz := 1) (lim := 115) rI_eq m2 m4 pl_62 (TB_in _ cw_62 rfl) ⟨(fun _ => ⟨_, _, _, _, _, _, rfl, rfl, by rw [m4]; rfl⟩), (fun z => by rw [m3] at z; cases z)⟩ (fun z => by cases z) KDL_take rfl rfl (fun z => by cases z) (fun z => by cases z) (fun _ => rfl) (by rw [m1]; exact Nat.le_of_ble_eq_true rfl)
      (fun _ _ _ _ z => by cases z)
      (fun _ _ _ _ z => by cases z)
      (fun _ _ _ _ z => by cases z)
      (fun _ _ _ _ z => by cases z)
      (fun p e R s m args below meth c Q n0 F hret => ?_)
    rw [m1] at F hret ⊢
    rw [mc_Reader_isSign] at F hret
    exact cuts_s (K := 400) (M := 37) (D := D_Reader_isSign N) (B := fun _ _ _ _ _ => none) F hret (chkT_ok chk_Reader_isSign) (hM_Reader_isSign N) (fun _ _ _ _ _ z => by cases z) (hD_Reader_isSign N) N 0 _ _ _ hf
  · cases hf
def T_Reader_seesEnd : List (List (Option RW)) := [
  [some (.aload_n 0, 1, [0], 0, 0), some (.bipush 59, 2, [], 59, 0), none, some (.invokevirtual 125, 3, [0, 62, 2, 0], 0, 0), none, none, some (.ifCond .ne 15, 3, [21], 0, 0), none, none, some (.aload_n 0, 1, [0], 0, 0), some (.iconst 2, 1, [], 2, 0), some (.aload_n 0, 1, [0], 0, 0), some (.getfield 25, 3, [7, 4, 0], 0, 0), none, none, some (.invokevirtual 85, 3, [0, 56, 3, 0], 0, 0), none, none, some (.ifCond .eq 7, 3, [25], 0, 0), none, none, some (.iconst 1, 1, [], 1, 0), some (.goto 4, 3, [26], 0, 0), none, none, some (.iconst 0, 1, [], 0, 0), some (.ireturn, 1, [], 0, 0)]]
def f_Reader_seesEnd (N : Nat) (h : MH) : Option (Int32 × MH) :=
  (f_Reader_isSign N 59 h).bind (fun x1 =>
  if x1.1 = 0 then
  ((f_Reader_fail N 2 (gI x1.2 3 4) x1.2).bind (fun x2 =>
  if x2.1 = 0 then
  (some (0, x2.2))
  else
  (some (1, x2.2))))
  else
  (some (1, x1.2)))
def C_Reader_seesEnd (N : Nat) : MC := (KDL, false, (fun _ => 0), jsB, (fun j => match Nat.beq j 56 with
    | true => w_Reader_fail (f_Reader_fail N)
    | false => match Nat.beq j 62 with
    | true => w_Reader_isSign (f_Reader_isSign N)
    | false => fun _ _ => none), (fun _ _ _ => none), (fun _ _ _ => none), (fun _ _ _ => none))
def D_Reader_seesEnd (N : Nat) (n pc : Nat) (lv : ML) (st : List MV) (h : MH) : Option (Int32 × MH) :=
  match Nat.beq pc 0 with
  | true => (match lk lv 0, st with
    | some (.inr (.inr (0, 7, 3))), [] => f_Reader_seesEnd N h
    | _, _ => none)
  | false => none
set_option maxRecDepth 1000000 in
theorem E_Reader_seesEnd_0 (N : Nat) (n : Nat) (h : MH) : seg (C_Reader_seesEnd N) 1 1 rI T_Reader_seesEnd [0] (fun q lv st h => match Nat.ble 1 q with
    | true => D_Reader_seesEnd N n q lv st h
    | false => none) 400 true 0 [(0, .inr (.inr (0, 7, 3)))] [] h = f_Reader_seesEnd N h := (rfl)
set_option maxRecDepth 1000000 in
theorem chk_Reader_seesEnd : chkT 7 false prog_9_method_17_code T_Reader_seesEnd = true := by decide +kernel
theorem mc_Reader_seesEnd : mC 67 = prog_9_method_17_code := by rfl
theorem mx_Reader_seesEnd : mL 67 = 1 ∧ mR 67 = some .boolean ∧ mK 67 = 1 ∧ (mN 67).cls = cN 7 := by decide +kernel
theorem hD_Reader_seesEnd (N : Nat) {r : Int32 × MH} : ∀ n pc lv st h, D_Reader_seesEnd N n pc lv st h = some r → ∃ lv', (∀ q ∈ lv', q ∈ lv) ∧ seg (C_Reader_seesEnd N) 1 1 rI T_Reader_seesEnd [0] (fun q lv st h => match Nat.ble (pc + 1) q with
    | true => D_Reader_seesEnd N n q lv st h
    | false => none) 400 true pc lv' st h = some r := by
  intro n pc lv st h hf
  unfold D_Reader_seesEnd at hf
  split at hf
  · rename_i hb
    have hb := Nat.eq_of_beq_eq_true hb
    subst hb
    split at hf
    · rename_i e0
      exact ⟨_, (sub_cons e0 sub_nil), (E_Reader_seesEnd_0 N n h).trans hf⟩
    · cases hf
  · skip
    cases hf
theorem hM_Reader_seesEnd (N : Nat) {r : Int32 × MH} : ∀ n pc lv st h, D_Reader_seesEnd N n pc lv st h = some r → pc < 27 := by
  intro n pc lv st h hf
  unfold D_Reader_seesEnd at hf
  split at hf
  · rename_i hb
    rw [Nat.eq_of_beq_eq_true hb]
    decide
  · skip
    cases hf
theorem s_Reader_seesEnd {l : Launch} {E : EV} {N : Nat} {as : List MV} {h : MH} {r : Int32 × MH} (hf : w_Reader_seesEnd (f_Reader_seesEnd N) as h = some r) : SndM l E false 1 67 as h (some (.inl r.1)) r.2 := by
  unfold w_Reader_seesEnd at hf
  split at hf
  · obtain ⟨m1, m2, m3, m4⟩ := mx_Reader_seesEnd
    refine snd_of (C := C_Reader_seesEnd N) (own := 7) (rz := 1) (lim := 115) rI_eq m2 m4 pl_67 (TB_in _ cw_67 rfl) ⟨(fun _ => ⟨_, _, _, _, _, _, rfl, rfl, by rw [m4]; rfl⟩), (fun z => by rw [m3] at z; cases z)⟩ (fun z => by cases z) KDL_take rfl rfl (fun z => by cases z) (fun z => by cases z) (fun _ => rfl) (by rw [m1]; exact Nat.le_of_ble_eq_true rfl)
      (fun j as h x z => by
      dsimp only [C_Reader_seesEnd] at z
      cases hb : Nat.beq j 56 with
      | true =>
        have hb := Nat.eq_of_beq_eq_true hb
        subst hb
        exact ⟨0, by decide, (fun z => by cases z), s_Reader_fail z⟩
      | false =>
        rw [hb] at z
        dsimp only at z
        cases hb : Nat.beq j 62 with
        | true =>
          have hb := Nat.eq_of_beq_eq_true hb
          subst hb
          exact ⟨0, by decide, (fun z => by cases z), s_Reader_isSign z⟩
        | false =>
          rw [hb] at z
          dsimp only at z
          cases z)
      (fun _ _ _ _ z => by cases z)
      (fun _ _ _ _ z => by cases z)
      (fun _ _ _ _ z => by cases z)
      (fun p e R s m args below meth c Q n0 F hret => ?_)
    rw [m1] at F hret ⊢
    rw [mc_Reader_seesEnd] at F hret
    exact cuts_s (K := 400) (M := 27) (D := D_Reader_seesEnd N) (B := fun _ _ _ _ _ => none) F hret (chkT_ok chk_Reader_seesEnd) (hM_Reader_seesEnd N) (fun _ _ _ _ _ z => by cases z) (hD_Reader_seesEnd N) N 0 _ _ _ hf
  · cases hf
def T_Reader_isName : List (List (Option RW)) := [
  [some (.aload_n 0, 1, [0], 0, 0), some (.getfield 22, 3, [7, 3, 0], 0, 0), none, none, some (.iconst 1, 1, [], 1, 0), some (.if_icmp .ne 102, 3, [107], 0, 0), none, none, some (.aload_n 0, 1, [0], 0, 0), some (.getfield 28, 3, [7, 5, 0], 0, 0), none, none, some (.aload_n 0, 1, [0], 0, 0), some (.getfield 25, 3, [7, 4, 0], 0, 0), none, none, some (.isub, 1, [], 0, 0), some (.bipush 8, 2, [], 8, 0), none, some (.if_icmp .gt 88, 3, [107], 0, 0), none, none, some (.aload_n 0, 1, [0], 0, 0), some (.ldc 99, 2, [0], 0, 0), none, some (.invokevirtual 101, 3, [0, 63, 2, 0], 0, 0), none, none, some (.ifCond .ne 79, 3, [107], 0, 0), none, none, some (.aload_n 0, 1, [0], 0, 0)],
  [some (.ldc 105, 2, [1], 0, 0), none, some (.invokevirtual 101, 3, [0, 63, 2, 0], 0, 0), none, none, some (.ifCond .ne 70, 3, [107], 0, 0), none, none, some (.aload_n 0, 1, [0], 0, 0), some (.ldc 107, 2, [2], 0, 0), none, some (.invokevirtual 101, 3, [0, 63, 2, 0], 0, 0), none, none, some (.ifCond .ne 61, 3, [107], 0, 0), none, none, some (.aload_n 0, 1, [0], 0, 0), some (.ldc 109, 2, [3], 0, 0), none, some (.invokevirtual 101, 3, [0, 63, 2, 0], 0, 0), none, none, some (.ifCond .ne 52, 3, [107], 0, 0), none, none, some (.aload_n 0, 1, [0], 0, 0), some (.ldc 111, 2, [4], 0, 0), none, some (.invokevirtual 101, 3, [0, 63, 2, 0], 0, 0), none, none],
  [some (.ifCond .ne 43, 3, [107], 0, 0), none, none, some (.aload_n 0, 1, [0], 0, 0), some (.ldc 113, 2, [5], 0, 0), none, some (.invokevirtual 101, 3, [0, 63, 2, 0], 0, 0), none, none, some (.ifCond .ne 34, 3, [107], 0, 0), none, none, some (.aload_n 0, 1, [0], 0, 0), some (.ldc 115, 2, [6], 0, 0), none, some (.invokevirtual 101, 3, [0, 63, 2, 0], 0, 0), none, none, some (.ifCond .ne 25, 3, [107], 0, 0), none, none, some (.aload_n 0, 1, [0], 0, 0), some (.ldc 117, 2, [7], 0, 0), none, some (.invokevirtual 101, 3, [0, 63, 2, 0], 0, 0), none, none, some (.ifCond .ne 16, 3, [107], 0, 0), none, none, some (.aload_n 0, 1, [0], 0, 0), some (.ldc 119, 2, [8], 0, 0)],
  [none, some (.invokevirtual 101, 3, [0, 63, 2, 0], 0, 0), none, none, some (.ifCond .ne 7, 3, [107], 0, 0), none, none, some (.iconst 1, 1, [], 1, 0), some (.goto 4, 3, [108], 0, 0), none, none, some (.iconst 0, 1, [], 0, 0), some (.ireturn, 1, [], 0, 0)]]
def f_Reader_isName (N : Nat) (h : MH) : Option (Int32 × MH) :=
  if (gI h 3 3) = 1 then
  (if 8 < ((gI h 3 5) - (gI h 3 4)) then
  (some (0, h))
  else
  ((f_Reader_isWord N 0 h).bind (fun x1 =>
  if x1.1 = 0 then
  ((f_Reader_isWord N 1 x1.2).bind (fun x2 =>
  if x2.1 = 0 then
  ((f_Reader_isWord N 2 x2.2).bind (fun x3 =>
  if x3.1 = 0 then
  ((f_Reader_isWord N 3 x3.2).bind (fun x4 =>
  if x4.1 = 0 then
  ((f_Reader_isWord N 4 x4.2).bind (fun x5 =>
  if x5.1 = 0 then
  ((f_Reader_isWord N 5 x5.2).bind (fun x6 =>
  if x6.1 = 0 then
  ((f_Reader_isWord N 6 x6.2).bind (fun x7 =>
  if x7.1 = 0 then
  ((f_Reader_isWord N 7 x7.2).bind (fun x8 =>
  if x8.1 = 0 then
  ((f_Reader_isWord N 8 x8.2).bind (fun x9 =>
  if x9.1 = 0 then
  (some (1, x9.2))
  else
  (some (0, x9.2))))
  else
  (some (0, x8.2))))
  else
  (some (0, x7.2))))
  else
  (some (0, x6.2))))
  else
  (some (0, x5.2))))
  else
  (some (0, x4.2))))
  else
  (some (0, x3.2))))
  else
  (some (0, x2.2))))
  else
  (some (0, x1.2)))))
  else
  (some (0, h))
def C_Reader_isName (N : Nat) : MC := (KDL, false, (fun _ => 0), jsB, (fun j => match Nat.beq j 63 with
    | true => w_Reader_isWord (f_Reader_isWord N)
    | false => fun _ _ => none), (fun _ _ _ => none), (fun _ _ _ => none), (fun _ _ _ => none))
def D_Reader_isName (N : Nat) (n pc : Nat) (lv : ML) (st : List MV) (h : MH) : Option (Int32 × MH) :=
  match Nat.beq pc 0 with
  | true => (match lk lv 0, st with
    | some (.inr (.inr (0, 7, 3))), [] => f_Reader_isName N h
    | _, _ => none)
  | false => none
set_option maxRecDepth 1000000 in
theorem E_Reader_isName_0 (N : Nat) (n : Nat) (h : MH) : seg (C_Reader_isName N) 1 1 rI T_Reader_isName [0] (fun q lv st h => match Nat.ble 1 q with
    | true => D_Reader_isName N n q lv st h
    | false => none) 400 true 0 [(0, .inr (.inr (0, 7, 3)))] [] h = f_Reader_isName N h := (rfl)
set_option maxRecDepth 1000000 in
theorem chk_Reader_isName : chkT 7 false prog_9_method_14_code T_Reader_isName = true := by decide +kernel
theorem mc_Reader_isName : mC 64 = prog_9_method_14_code := by rfl
theorem mx_Reader_isName : mL 64 = 1 ∧ mR 64 = some .boolean ∧ mK 64 = 1 ∧ (mN 64).cls = cN 7 := by decide +kernel
theorem hD_Reader_isName (N : Nat) {r : Int32 × MH} : ∀ n pc lv st h, D_Reader_isName N n pc lv st h = some r → ∃ lv', (∀ q ∈ lv', q ∈ lv) ∧ seg (C_Reader_isName N) 1 1 rI T_Reader_isName [0] (fun q lv st h => match Nat.ble (pc + 1) q with
    | true => D_Reader_isName N n q lv st h
    | false => none) 400 true pc lv' st h = some r := by
  intro n pc lv st h hf
  unfold D_Reader_isName at hf
  split at hf
  · rename_i hb
    have hb := Nat.eq_of_beq_eq_true hb
    subst hb
    split at hf
    · rename_i e0
      exact ⟨_, (sub_cons e0 sub_nil), (E_Reader_isName_0 N n h).trans hf⟩
    · cases hf
  · skip
    cases hf
theorem hM_Reader_isName (N : Nat) {r : Int32 × MH} : ∀ n pc lv st h, D_Reader_isName N n pc lv st h = some r → pc < 109 := by
  intro n pc lv st h hf
  unfold D_Reader_isName at hf
  split at hf
  · rename_i hb
    rw [Nat.eq_of_beq_eq_true hb]
    decide
  · skip
    cases hf
theorem s_Reader_isName {l : Launch} {E : EV} {N : Nat} {as : List MV} {h : MH} {r : Int32 × MH} (hf : w_Reader_isName (f_Reader_isName N) as h = some r) : SndM l E false 5 64 as h (some (.inl r.1)) r.2 := by
  unfold w_Reader_isName at hf
  split at hf
  · obtain ⟨m1, m2, m3, m4⟩ := mx_Reader_isName
    refine snd_of (C := C_Reader_isName N) (own := 7) (rz := 1) (lim := 115) rI_eq m2 m4 pl_64 (TB_in _ cw_64 rfl) ⟨(fun _ => ⟨_, _, _, _, _, _, rfl, rfl, by rw [m4]; rfl⟩), (fun z => by rw [m3] at z; cases z)⟩ (fun z => by cases z) KDL_take rfl rfl (fun z => by cases z) (fun z => by cases z) (fun _ => rfl) (by rw [m1]; exact Nat.le_of_ble_eq_true rfl)
      (fun j as h x z => by
      dsimp only [C_Reader_isName] at z
      cases hb : Nat.beq j 63 with
      | true =>
        have hb := Nat.eq_of_beq_eq_true hb
        subst hb
        exact ⟨4, by decide, (fun z => by cases z), s_Reader_isWord z⟩
      | false =>
        rw [hb] at z
        dsimp only at z
        cases z)
      (fun _ _ _ _ z => by cases z)
      (fun _ _ _ _ z => by cases z)
      (fun _ _ _ _ z => by cases z)
      (fun p e R s m args below meth c Q n0 F hret => ?_)
    rw [m1] at F hret ⊢
    rw [mc_Reader_isName] at F hret
    exact cuts_s (K := 400) (M := 109) (D := D_Reader_isName N) (B := fun _ _ _ _ _ => none) F hret (chkT_ok chk_Reader_isName) (hM_Reader_isName N) (fun _ _ _ _ _ z => by cases z) (hD_Reader_isName N) N 0 _ _ _ hf
  · cases hf
def T_Reader_seesNewName : List (List (Option RW)) := [
  [some (.aload_n 0, 1, [0], 0, 0), some (.invokevirtual 129, 3, [0, 64, 1, 0], 0, 0), none, none, some (.ifCond .ne 13, 3, [17], 0, 0), none, none, some (.aload_n 0, 1, [0], 0, 0), some (.iconst 2, 1, [], 2, 0), some (.aload_n 0, 1, [0], 0, 0), some (.getfield 25, 3, [7, 4, 0], 0, 0), none, none, some (.invokevirtual 85, 3, [0, 56, 3, 0], 0, 0), none, none, some (.ireturn, 1, [], 0, 0), some (.aload_n 0, 1, [0], 0, 0), some (.getfield 50, 3, [7, 10, 2, 0, 5, 8], 0, 0), none, none, some (.aload_n 0, 1, [0], 0, 0), some (.getfield 9, 3, [7, 0, 2, 3, 600, 1], 0, 0), none, none, some (.aload_n 0, 1, [0], 0, 0), some (.getfield 25, 3, [7, 4, 0], 0, 0), none, none, some (.aload_n 0, 1, [0], 0, 0), some (.getfield 28, 3, [7, 5, 0], 0, 0), none],
  [none, some (.invokevirtual 132, 3, [1, 43, 4, 0], 0, 0), none, none, some (.ifCond .lt 15, 3, [51], 0, 0), none, none, some (.aload_n 0, 1, [0], 0, 0), some (.iconst 3, 1, [], 3, 0), some (.aload_n 0, 1, [0], 0, 0), some (.getfield 25, 3, [7, 4, 0], 0, 0), none, none, some (.invokevirtual 85, 3, [0, 56, 3, 0], 0, 0), none, none, some (.ifCond .eq 7, 3, [55], 0, 0), none, none, some (.iconst 1, 1, [], 1, 0), some (.goto 4, 3, [56], 0, 0), none, none, some (.iconst 0, 1, [], 0, 0), some (.ireturn, 1, [], 0, 0)]]
def f_Reader_seesNewName (N : Nat) (h : MH) : Option (Int32 × MH) :=
  (f_Reader_isName N h).bind (fun x1 =>
  if x1.1 = 0 then
  ((f_Reader_fail N 2 (gI x1.2 3 4) x1.2).bind (fun x2 =>
  match narOK 1 x2.1 with
  | true => some (x2.1, x2.2)
  | false => none))
  else
  ((f_Names_find N (gI x1.2 3 4) (gI x1.2 3 5) x1.2).bind (fun x3 =>
  if x3.1 < 0 then
  (some (1, x3.2))
  else
  ((f_Reader_fail N 3 (gI x3.2 3 4) x3.2).bind (fun x4 =>
  if x4.1 = 0 then
  (some (0, x4.2))
  else
  (some (1, x4.2)))))))
def C_Reader_seesNewName (N : Nat) : MC := (KDL, false, (fun _ => 0), jsB, (fun j => match Nat.beq j 43 with
    | true => w_Names_find (f_Names_find N)
    | false => match Nat.beq j 56 with
    | true => w_Reader_fail (f_Reader_fail N)
    | false => match Nat.beq j 64 with
    | true => w_Reader_isName (f_Reader_isName N)
    | false => fun _ _ => none), (fun _ _ _ => none), (fun _ _ _ => none), (fun _ _ _ => none))
def D_Reader_seesNewName (N : Nat) (n pc : Nat) (lv : ML) (st : List MV) (h : MH) : Option (Int32 × MH) :=
  match Nat.beq pc 0 with
  | true => (match lk lv 0, st with
    | some (.inr (.inr (0, 7, 3))), [] => f_Reader_seesNewName N h
    | _, _ => none)
  | false => none
set_option maxRecDepth 1000000 in
theorem E_Reader_seesNewName_0 (N : Nat) (n : Nat) (h : MH) : seg (C_Reader_seesNewName N) 1 1 rI T_Reader_seesNewName [0] (fun q lv st h => match Nat.ble 1 q with
    | true => D_Reader_seesNewName N n q lv st h
    | false => none) 400 true 0 [(0, .inr (.inr (0, 7, 3)))] [] h = f_Reader_seesNewName N h := (rfl)
set_option maxRecDepth 1000000 in
theorem chk_Reader_seesNewName : chkT 7 false prog_9_method_18_code T_Reader_seesNewName = true := by decide +kernel
theorem mc_Reader_seesNewName : mC 68 = prog_9_method_18_code := by rfl
theorem mx_Reader_seesNewName : mL 68 = 1 ∧ mR 68 = some .boolean ∧ mK 68 = 1 ∧ (mN 68).cls = cN 7 := by decide +kernel
theorem hD_Reader_seesNewName (N : Nat) {r : Int32 × MH} : ∀ n pc lv st h, D_Reader_seesNewName N n pc lv st h = some r → ∃ lv', (∀ q ∈ lv', q ∈ lv) ∧ seg (C_Reader_seesNewName N) 1 1 rI T_Reader_seesNewName [0] (fun q lv st h => match Nat.ble (pc + 1) q with
    | true => D_Reader_seesNewName N n q lv st h
    | false => none) 400 true pc lv' st h = some r := by
  intro n pc lv st h hf
  unfold D_Reader_seesNewName at hf
  split at hf
  · rename_i hb
    have hb := Nat.eq_of_beq_eq_true hb
    subst hb
    split at hf
    · rename_i e0
      exact ⟨_, (sub_cons e0 sub_nil), (E_Reader_seesNewName_0 N n h).trans hf⟩
    · cases hf
  · skip
    cases hf
theorem hM_Reader_seesNewName (N : Nat) {r : Int32 × MH} : ∀ n pc lv st h, D_Reader_seesNewName N n pc lv st h = some r → pc < 57 := by
  intro n pc lv st h hf
  unfold D_Reader_seesNewName at hf
  split at hf
  · rename_i hb
    rw [Nat.eq_of_beq_eq_true hb]
    decide
  · skip
    cases hf
theorem s_Reader_seesNewName {l : Launch} {E : EV} {N : Nat} {as : List MV} {h : MH} {r : Int32 × MH} (hf : w_Reader_seesNewName (f_Reader_seesNewName N) as h = some r) : SndM l E false 6 68 as h (some (.inl r.1)) r.2 := by
  unfold w_Reader_seesNewName at hf
  split at hf
  · obtain ⟨m1, m2, m3, m4⟩ := mx_Reader_seesNewName
    refine snd_of (C := C_Reader_seesNewName N) (own := 7) (rz := 1) (lim := 115) rI_eq m2 m4 pl_68 (TB_in _ cw_68 rfl) ⟨(fun _ => ⟨_, _, _, _, _, _, rfl, rfl, by rw [m4]; rfl⟩), (fun z => by rw [m3] at z; cases z)⟩ (fun z => by cases z) KDL_take rfl rfl (fun z => by cases z) (fun z => by cases z) (fun _ => rfl) (by rw [m1]; exact Nat.le_of_ble_eq_true rfl)
      (fun j as h x z => by
      dsimp only [C_Reader_seesNewName] at z
      cases hb : Nat.beq j 43 with
      | true =>
        have hb := Nat.eq_of_beq_eq_true hb
        subst hb
        exact ⟨1, by decide, (fun z => by cases z), s_Names_find z⟩
      | false =>
        rw [hb] at z
        dsimp only at z
        cases hb : Nat.beq j 56 with
        | true =>
          have hb := Nat.eq_of_beq_eq_true hb
          subst hb
          exact ⟨0, by decide, (fun z => by cases z), s_Reader_fail z⟩
        | false =>
          rw [hb] at z
          dsimp only at z
          cases hb : Nat.beq j 64 with
          | true =>
            have hb := Nat.eq_of_beq_eq_true hb
            subst hb
            exact ⟨5, by decide, (fun z => by cases z), s_Reader_isName z⟩
          | false =>
            rw [hb] at z
            dsimp only at z
            cases z)
      (fun _ _ _ _ z => by cases z)
      (fun _ _ _ _ z => by cases z)
      (fun _ _ _ _ z => by cases z)
      (fun p e R s m args below meth c Q n0 F hret => ?_)
    rw [m1] at F hret ⊢
    rw [mc_Reader_seesNewName] at F hret
    exact cuts_s (K := 400) (M := 57) (D := D_Reader_seesNewName N) (B := fun _ _ _ _ _ => none) F hret (chkT_ok chk_Reader_seesNewName) (hM_Reader_seesNewName N) (fun _ _ _ _ _ z => by cases z) (hD_Reader_seesNewName N) N 0 _ _ _ hf
  · cases hf
def T_Reader_readSheet : List (List (Option RW)) := [
  [some (.aload_n 0, 1, [0], 0, 0), some (.invokevirtual 65, 3, [0, 57, 1, 3], 0, 0), none, none, some (.aload_n 0, 1, [0], 0, 0), some (.getfield 25, 3, [7, 4, 0], 0, 0), none, none, some (.istore_n 1, 1, [1], 0, 0), some (.aload_n 0, 1, [0], 0, 0), some (.getfield 28, 3, [7, 5, 0], 0, 0), none, none, some (.istore_n 2, 1, [2], 0, 0), some (.aload_n 0, 1, [0], 0, 0), some (.invokevirtual 161, 3, [0, 68, 1, 0], 0, 0), none, none, some (.ifCond .ne 5, 3, [23], 0, 0), none, none, some (.iconst 0, 1, [], 0, 0), some (.ireturn, 1, [], 0, 0), some (.aload_n 0, 1, [0], 0, 0), some (.invokevirtual 65, 3, [0, 57, 1, 3], 0, 0), none, none, some (.aload_n 0, 1, [0], 0, 0), some (.ldc 105, 2, [1], 0, 0), none, some (.invokevirtual 164, 3, [0, 65, 2, 0], 0, 0), none],
  [none, some (.ifCond .eq 13, 3, [46], 0, 0), none, none, some (.aload_n 0, 1, [0], 0, 0), some (.iconst 1, 1, [], 1, 0), some (.bipush 6, 2, [], 6, 0), none, some (.invokevirtual 140, 3, [0, 66, 3, 0], 0, 0), none, none, some (.ifCond .ne 5, 3, [48], 0, 0), none, none, some (.iconst 0, 1, [], 0, 0), some (.ireturn, 1, [], 0, 0), some (.aload_n 0, 1, [0], 0, 0), some (.getfield 31, 3, [7, 6, 0], 0, 0), none, none, some (.istore_n 3, 1, [3], 0, 0), some (.aload_n 0, 1, [0], 0, 0), some (.getfield 43, 3, [7, 9, 3, 0, 2], 0, 0), none, none, some (.getfield 167, 3, [2, 0, 0], 0, 0), none, none, some (.iload_n 3, 1, [3], 0, 0), some (.iadd, 1, [], 0, 0), some (.bipush 6, 2, [], 6, 0), none],
  [some (.if_icmp .le 14, 3, [78], 0, 0), none, none, some (.aload_n 0, 1, [0], 0, 0), some (.bipush 6, 2, [], 6, 0), none, some (.aload_n 0, 1, [0], 0, 0), some (.getfield 25, 3, [7, 4, 0], 0, 0), none, none, some (.invokevirtual 85, 3, [0, 56, 3, 0], 0, 0), none, none, some (.ireturn, 1, [], 0, 0), some (.aload_n 0, 1, [0], 0, 0), some (.invokevirtual 65, 3, [0, 57, 1, 3], 0, 0), none, none, some (.aload_n 0, 1, [0], 0, 0), some (.ldc 107, 2, [2], 0, 0), none, some (.invokevirtual 164, 3, [0, 65, 2, 0], 0, 0), none, none, some (.ifCond .eq 14, 3, [102], 0, 0), none, none, some (.aload_n 0, 1, [0], 0, 0), some (.iconst 0, 1, [], 0, 0), some (.sipush 999, 3, [], 999, 0), none, none],
  [some (.invokevirtual 140, 3, [0, 66, 3, 0], 0, 0), none, none, some (.ifCond .ne 5, 3, [104], 0, 0), none, none, some (.iconst 0, 1, [], 0, 0), some (.ireturn, 1, [], 0, 0), some (.aload_n 0, 1, [0], 0, 0), some (.getfield 31, 3, [7, 6, 0], 0, 0), none, none, some (.istore 4, 2, [4], 0, 0), none, some (.aload_n 0, 1, [0], 0, 0), some (.invokevirtual 65, 3, [0, 57, 1, 3], 0, 0), none, none, some (.aload_n 0, 1, [0], 0, 0), some (.invokevirtual 169, 3, [0, 67, 1, 0], 0, 0), none, none, some (.ifCond .ne 5, 3, [123], 0, 0), none, none, some (.iconst 0, 1, [], 0, 0), some (.ireturn, 1, [], 0, 0), some (.aload_n 0, 1, [0], 0, 0), some (.getfield 50, 3, [7, 10, 2, 0, 5, 8], 0, 0), none, none, some (.iload_n 1, 1, [1], 0, 0)],
  [some (.iload_n 2, 1, [2], 0, 0), some (.aload_n 0, 1, [0], 0, 0), some (.getfield 43, 3, [7, 9, 3, 0, 2], 0, 0), none, none, some (.getfield 167, 3, [2, 0, 0], 0, 0), none, none, some (.iload_n 3, 1, [3], 0, 0), some (.invokevirtual 172, 3, [1, 42, 5, 3], 0, 0), none, none, some (.aload_n 0, 1, [0], 0, 0), some (.getfield 43, 3, [7, 9, 3, 0, 2], 0, 0), none, none, some (.iload_n 3, 1, [3], 0, 0), some (.iload 4, 2, [4], 0, 0), none, some (.invokevirtual 176, 3, [1, 14, 3, 3], 0, 0), none, none, some (.iconst 1, 1, [], 1, 0), some (.ireturn, 1, [], 0, 0)]]
def f_Reader_readSheet (N : Nat) (h : MH) : Option (Int32 × MH) :=
  (f_Reader_advance N h).bind (fun x1 =>
  let v2 : Int32 := gI x1 3 4
  let v3 : Int32 := gI x1 3 5
  (f_Reader_seesNewName N x1).bind (fun x4 =>
  if x4.1 = 0 then
  (some (0, x4.2))
  else
  ((f_Reader_advance N x4.2).bind (fun x5 =>
  (f_Reader_passWord N 1 x5).bind (fun x6 =>
  if x6.1 = 0 then
  (some (0, x6.2))
  else
  ((f_Reader_seesNumber N 1 6 x6.2).bind (fun x7 =>
  if x7.1 = 0 then
  (some (0, x7.2))
  else
  (let v8 : Int32 := gI x7.2 3 6
  if ((gI x7.2 (gR x7.2 3 9) 0) + v8) ≤ 6 then
  ((f_Reader_advance N x7.2).bind (fun x9 =>
  (f_Reader_passWord N 2 x9).bind (fun x10 =>
  if x10.1 = 0 then
  (some (0, x10.2))
  else
  ((f_Reader_seesNumber N 0 999 x10.2).bind (fun x11 =>
  if x11.1 = 0 then
  (some (0, x11.2))
  else
  (let v12 : Int32 := gI x11.2 3 6
  (f_Reader_advance N x11.2).bind (fun x13 =>
  (f_Reader_seesEnd N x13).bind (fun x14 =>
  if x14.1 = 0 then
  (some (0, x14.2))
  else
  ((f_Names_add N v2 v3 (gI x14.2 (gR x14.2 3 9) 0) v8 x14.2).bind (fun x15 =>
  (f_Land_addCells N (gR x15 3 9) v8 v12 x15).bind (fun x16 =>
  some (1, x16))))))))))))
  else
  ((f_Reader_fail N 6 (gI x7.2 3 4) x7.2).bind (fun x17 =>
  match narOK 1 x17.1 with
  | true => some (x17.1, x17.2)
  | false => none))))))))))
def C_Reader_readSheet (N : Nat) : MC := (KDL, false, (fun _ => 0), jsB, (fun j => match Nat.beq j 56 with
    | true => w_Reader_fail (f_Reader_fail N)
    | false => match Nat.beq j 65 with
    | true => w_Reader_passWord (f_Reader_passWord N)
    | false => match Nat.beq j 66 with
    | true => w_Reader_seesNumber (f_Reader_seesNumber N)
    | false => match Nat.beq j 67 with
    | true => w_Reader_seesEnd (f_Reader_seesEnd N)
    | false => match Nat.beq j 68 with
    | true => w_Reader_seesNewName (f_Reader_seesNewName N)
    | false => fun _ _ => none), (fun _ _ _ => none), (fun _ _ _ => none), (fun j => match Nat.beq j 14 with
    | true => w_Land_addCells (f_Land_addCells N)
    | false => match Nat.beq j 42 with
    | true => w_Names_add (f_Names_add N)
    | false => match Nat.beq j 57 with
    | true => w_Reader_advance (f_Reader_advance N)
    | false => fun _ _ => none))
def D_Reader_readSheet (N : Nat) (n pc : Nat) (lv : ML) (st : List MV) (h : MH) : Option (Int32 × MH) :=
  match Nat.beq pc 0 with
  | true => (match lk lv 0, st with
    | some (.inr (.inr (0, 7, 3))), [] => f_Reader_readSheet N h
    | _, _ => none)
  | false => none
set_option maxRecDepth 1000000 in
theorem E_Reader_readSheet_0 (N : Nat) (n : Nat) (h : MH) : seg (C_Reader_readSheet N) 5 1 rI T_Reader_readSheet [0] (fun q lv st h => match Nat.ble 1 q with
    | true => D_Reader_readSheet N n q lv st h
    | false => none) 400 true 0 [(0, .inr (.inr (0, 7, 3)))] [] h = f_Reader_readSheet N h := (rfl)
set_option maxRecDepth 1000000 in
theorem chk_Reader_readSheet : chkT 7 false prog_9_method_21_code T_Reader_readSheet = true := by decide +kernel
theorem mc_Reader_readSheet : mC 71 = prog_9_method_21_code := by rfl
theorem mx_Reader_readSheet : mL 71 = 5 ∧ mR 71 = some .boolean ∧ mK 71 = 1 ∧ (mN 71).cls = cN 7 := by decide +kernel
theorem hD_Reader_readSheet (N : Nat) {r : Int32 × MH} : ∀ n pc lv st h, D_Reader_readSheet N n pc lv st h = some r → ∃ lv', (∀ q ∈ lv', q ∈ lv) ∧ seg (C_Reader_readSheet N) 5 1 rI T_Reader_readSheet [0] (fun q lv st h => match Nat.ble (pc + 1) q with
    | true => D_Reader_readSheet N n q lv st h
    | false => none) 400 true pc lv' st h = some r := by
  intro n pc lv st h hf
  unfold D_Reader_readSheet at hf
  split at hf
  · rename_i hb
    have hb := Nat.eq_of_beq_eq_true hb
    subst hb
    split at hf
    · rename_i e0
      exact ⟨_, (sub_cons e0 sub_nil), (E_Reader_readSheet_0 N n h).trans hf⟩
    · cases hf
  · skip
    cases hf
theorem hM_Reader_readSheet (N : Nat) {r : Int32 × MH} : ∀ n pc lv st h, D_Reader_readSheet N n pc lv st h = some r → pc < 152 := by
  intro n pc lv st h hf
  unfold D_Reader_readSheet at hf
  split at hf
  · rename_i hb
    rw [Nat.eq_of_beq_eq_true hb]
    decide
  · skip
    cases hf
theorem s_Reader_readSheet {l : Launch} {E : EV} {N : Nat} {as : List MV} {h : MH} {r : Int32 × MH} (hf : w_Reader_readSheet (f_Reader_readSheet N) as h = some r) : SndM l E false 7 71 as h (some (.inl r.1)) r.2 := by
  unfold w_Reader_readSheet at hf
  split at hf
  · obtain ⟨m1, m2, m3, m4⟩ := mx_Reader_readSheet
    refine snd_of (C := C_Reader_readSheet N) (own := 7) (rz := 1) (lim := 115) rI_eq m2 m4 pl_71 (TB_in _ cw_71 rfl) ⟨(fun _ => ⟨_, _, _, _, _, _, rfl, rfl, by rw [m4]; rfl⟩), (fun z => by rw [m3] at z; cases z)⟩ (fun z => by cases z) KDL_take rfl rfl (fun z => by cases z) (fun z => by cases z) (fun _ => rfl) (by rw [m1]; exact Nat.le_of_ble_eq_true rfl)
      (fun j as h x z => by
      dsimp only [C_Reader_readSheet] at z
      cases hb : Nat.beq j 56 with
      | true =>
        have hb := Nat.eq_of_beq_eq_true hb
        subst hb
        exact ⟨0, by decide, (fun z => by cases z), s_Reader_fail z⟩
      | false =>
        rw [hb] at z
        dsimp only at z
        cases hb : Nat.beq j 65 with
        | true =>
          have hb := Nat.eq_of_beq_eq_true hb
          subst hb
          exact ⟨5, by decide, (fun z => by cases z), s_Reader_passWord z⟩
        | false =>
          rw [hb] at z
          dsimp only at z
          cases hb : Nat.beq j 66 with
          | true =>
            have hb := Nat.eq_of_beq_eq_true hb
            subst hb
            exact ⟨1, by decide, (fun z => by cases z), s_Reader_seesNumber z⟩
          | false =>
            rw [hb] at z
            dsimp only at z
            cases hb : Nat.beq j 67 with
            | true =>
              have hb := Nat.eq_of_beq_eq_true hb
              subst hb
              exact ⟨1, by decide, (fun z => by cases z), s_Reader_seesEnd z⟩
            | false =>
              rw [hb] at z
              dsimp only at z
              cases hb : Nat.beq j 68 with
              | true =>
                have hb := Nat.eq_of_beq_eq_true hb
                subst hb
                exact ⟨6, by decide, (fun z => by cases z), s_Reader_seesNewName z⟩
              | false =>
                rw [hb] at z
                dsimp only at z
                cases z)
      (fun _ _ _ _ z => by cases z)
      (fun _ _ _ _ z => by cases z)
      (fun j as h x z => by
      dsimp only [C_Reader_readSheet] at z
      cases hb : Nat.beq j 14 with
      | true =>
        have hb := Nat.eq_of_beq_eq_true hb
        subst hb
        exact ⟨0, by decide, (fun z => by cases z), s_Land_addCells z⟩
      | false =>
        rw [hb] at z
        dsimp only at z
        cases hb : Nat.beq j 42 with
        | true =>
          have hb := Nat.eq_of_beq_eq_true hb
          subst hb
          exact ⟨0, by decide, (fun z => by cases z), s_Names_add z⟩
        | false =>
          rw [hb] at z
          dsimp only at z
          cases hb : Nat.beq j 57 with
          | true =>
            have hb := Nat.eq_of_beq_eq_true hb
            subst hb
            exact ⟨2, by decide, (fun z => by cases z), s_Reader_advance z⟩
          | false =>
            rw [hb] at z
            dsimp only at z
            cases z)
      (fun p e R s m args below meth c Q n0 F hret => ?_)
    rw [m1] at F hret ⊢
    rw [mc_Reader_readSheet] at F hret
    exact cuts_s (K := 400) (M := 152) (D := D_Reader_readSheet N) (B := fun _ _ _ _ _ => none) F hret (chkT_ok chk_Reader_readSheet) (hM_Reader_readSheet N) (fun _ _ _ _ _ z => by cases z) (hD_Reader_readSheet N) N 0 _ _ _ hf
  · cases hf
def T_Reader_readMark : List (List (Option RW)) := [
  [some (.aload_n 0, 1, [0], 0, 0), some (.invokevirtual 65, 3, [0, 57, 1, 3], 0, 0), none, none, some (.aload_n 0, 1, [0], 0, 0), some (.getfield 25, 3, [7, 4, 0], 0, 0), none, none, some (.istore_n 1, 1, [1], 0, 0), some (.aload_n 0, 1, [0], 0, 0), some (.getfield 28, 3, [7, 5, 0], 0, 0), none, none, some (.istore_n 2, 1, [2], 0, 0), some (.aload_n 0, 1, [0], 0, 0), some (.invokevirtual 161, 3, [0, 68, 1, 0], 0, 0), none, none, some (.ifCond .ne 5, 3, [23], 0, 0), none, none, some (.iconst 0, 1, [], 0, 0), some (.ireturn, 1, [], 0, 0), some (.aload_n 0, 1, [0], 0, 0), some (.getfield 43, 3, [7, 9, 3, 0, 2], 0, 0), none, none, some (.getfield 180, 3, [2, 1, 0], 0, 0), none, none, some (.bipush 8, 2, [], 8, 0), none],
  [some (.if_icmp .lt 14, 3, [46], 0, 0), none, none, some (.aload_n 0, 1, [0], 0, 0), some (.bipush 6, 2, [], 6, 0), none, some (.aload_n 0, 1, [0], 0, 0), some (.getfield 25, 3, [7, 4, 0], 0, 0), none, none, some (.invokevirtual 85, 3, [0, 56, 3, 0], 0, 0), none, none, some (.ireturn, 1, [], 0, 0), some (.aload_n 0, 1, [0], 0, 0), some (.invokevirtual 65, 3, [0, 57, 1, 3], 0, 0), none, none, some (.aload_n 0, 1, [0], 0, 0), some (.invokevirtual 169, 3, [0, 67, 1, 0], 0, 0), none, none, some (.ifCond .ne 5, 3, [59], 0, 0), none, none, some (.iconst 0, 1, [], 0, 0), some (.ireturn, 1, [], 0, 0), some (.aload_n 0, 1, [0], 0, 0), some (.getfield 50, 3, [7, 10, 2, 0, 5, 8], 0, 0), none, none, some (.iload_n 1, 1, [1], 0, 0)],
  [some (.iload_n 2, 1, [2], 0, 0), some (.aload_n 0, 1, [0], 0, 0), some (.getfield 43, 3, [7, 9, 3, 0, 2], 0, 0), none, none, some (.getfield 180, 3, [2, 1, 0], 0, 0), none, none, some (.iconst 0, 1, [], 0, 0), some (.invokevirtual 172, 3, [1, 42, 5, 3], 0, 0), none, none, some (.aload_n 0, 1, [0], 0, 0), some (.getfield 43, 3, [7, 9, 3, 0, 2], 0, 0), none, none, some (.dup, 1, [], 0, 0), some (.getfield 180, 3, [2, 1, 0], 0, 0), none, none, some (.iconst 1, 1, [], 1, 0), some (.iadd, 1, [], 0, 0), some (.putfield 180, 3, [2, 1, 0], 0, 0), none, none, some (.iconst 1, 1, [], 1, 0), some (.ireturn, 1, [], 0, 0)]]
def f_Reader_readMark (N : Nat) (h : MH) : Option (Int32 × MH) :=
  (f_Reader_advance N h).bind (fun x1 =>
  let v2 : Int32 := gI x1 3 4
  let v3 : Int32 := gI x1 3 5
  (f_Reader_seesNewName N x1).bind (fun x4 =>
  if x4.1 = 0 then
  (some (0, x4.2))
  else
  (if (gI x4.2 (gR x4.2 3 9) 1) < 8 then
  ((f_Reader_advance N x4.2).bind (fun x5 =>
  (f_Reader_seesEnd N x5).bind (fun x6 =>
  if x6.1 = 0 then
  (some (0, x6.2))
  else
  ((f_Names_add N v2 v3 (gI x6.2 (gR x6.2 3 9) 1) 0 x6.2).bind (fun x7 =>
  let h8 : MH := sI x7 (gR x7 3 9) 1 ((gI x7 (gR x7 3 9) 1) + 1)
  some (1, h8))))))
  else
  ((f_Reader_fail N 6 (gI x4.2 3 4) x4.2).bind (fun x9 =>
  match narOK 1 x9.1 with
  | true => some (x9.1, x9.2)
  | false => none)))))
def C_Reader_readMark (N : Nat) : MC := (KDL, false, (fun _ => 0), jsB, (fun j => match Nat.beq j 56 with
    | true => w_Reader_fail (f_Reader_fail N)
    | false => match Nat.beq j 67 with
    | true => w_Reader_seesEnd (f_Reader_seesEnd N)
    | false => match Nat.beq j 68 with
    | true => w_Reader_seesNewName (f_Reader_seesNewName N)
    | false => fun _ _ => none), (fun _ _ _ => none), (fun _ _ _ => none), (fun j => match Nat.beq j 42 with
    | true => w_Names_add (f_Names_add N)
    | false => match Nat.beq j 57 with
    | true => w_Reader_advance (f_Reader_advance N)
    | false => fun _ _ => none))
def D_Reader_readMark (N : Nat) (n pc : Nat) (lv : ML) (st : List MV) (h : MH) : Option (Int32 × MH) :=
  match Nat.beq pc 0 with
  | true => (match lk lv 0, st with
    | some (.inr (.inr (0, 7, 3))), [] => f_Reader_readMark N h
    | _, _ => none)
  | false => none
set_option maxRecDepth 1000000 in
theorem E_Reader_readMark_0 (N : Nat) (n : Nat) (h : MH) : seg (C_Reader_readMark N) 3 1 rI T_Reader_readMark [0] (fun q lv st h => match Nat.ble 1 q with
    | true => D_Reader_readMark N n q lv st h
    | false => none) 400 true 0 [(0, .inr (.inr (0, 7, 3)))] [] h = f_Reader_readMark N h := (rfl)
set_option maxRecDepth 1000000 in
theorem chk_Reader_readMark : chkT 7 false prog_9_method_22_code T_Reader_readMark = true := by decide +kernel
theorem mc_Reader_readMark : mC 72 = prog_9_method_22_code := by rfl
theorem mx_Reader_readMark : mL 72 = 3 ∧ mR 72 = some .boolean ∧ mK 72 = 1 ∧ (mN 72).cls = cN 7 := by decide +kernel
theorem hD_Reader_readMark (N : Nat) {r : Int32 × MH} : ∀ n pc lv st h, D_Reader_readMark N n pc lv st h = some r → ∃ lv', (∀ q ∈ lv', q ∈ lv) ∧ seg (C_Reader_readMark N) 3 1 rI T_Reader_readMark [0] (fun q lv st h => match Nat.ble (pc + 1) q with
    | true => D_Reader_readMark N n q lv st h
    | false => none) 400 true pc lv' st h = some r := by
  intro n pc lv st h hf
  unfold D_Reader_readMark at hf
  split at hf
  · rename_i hb
    have hb := Nat.eq_of_beq_eq_true hb
    subst hb
    split at hf
    · rename_i e0
      exact ⟨_, (sub_cons e0 sub_nil), (E_Reader_readMark_0 N n h).trans hf⟩
    · cases hf
  · skip
    cases hf
theorem hM_Reader_readMark (N : Nat) {r : Int32 × MH} : ∀ n pc lv st h, D_Reader_readMark N n pc lv st h = some r → pc < 91 := by
  intro n pc lv st h hf
  unfold D_Reader_readMark at hf
  split at hf
  · rename_i hb
    rw [Nat.eq_of_beq_eq_true hb]
    decide
  · skip
    cases hf
theorem s_Reader_readMark {l : Launch} {E : EV} {N : Nat} {as : List MV} {h : MH} {r : Int32 × MH} (hf : w_Reader_readMark (f_Reader_readMark N) as h = some r) : SndM l E false 7 72 as h (some (.inl r.1)) r.2 := by
  unfold w_Reader_readMark at hf
  split at hf
  · obtain ⟨m1, m2, m3, m4⟩ := mx_Reader_readMark
    refine snd_of (C := C_Reader_readMark N) (own := 7) (rz := 1) (lim := 115) rI_eq m2 m4 pl_72 (TB_in _ cw_72 rfl) ⟨(fun _ => ⟨_, _, _, _, _, _, rfl, rfl, by rw [m4]; rfl⟩), (fun z => by rw [m3] at z; cases z)⟩ (fun z => by cases z) KDL_take rfl rfl (fun z => by cases z) (fun z => by cases z) (fun _ => rfl) (by rw [m1]; exact Nat.le_of_ble_eq_true rfl)
      (fun j as h x z => by
      dsimp only [C_Reader_readMark] at z
      cases hb : Nat.beq j 56 with
      | true =>
        have hb := Nat.eq_of_beq_eq_true hb
        subst hb
        exact ⟨0, by decide, (fun z => by cases z), s_Reader_fail z⟩
      | false =>
        rw [hb] at z
        dsimp only at z
        cases hb : Nat.beq j 67 with
        | true =>
          have hb := Nat.eq_of_beq_eq_true hb
          subst hb
          exact ⟨1, by decide, (fun z => by cases z), s_Reader_seesEnd z⟩
        | false =>
          rw [hb] at z
          dsimp only at z
          cases hb : Nat.beq j 68 with
          | true =>
            have hb := Nat.eq_of_beq_eq_true hb
            subst hb
            exact ⟨6, by decide, (fun z => by cases z), s_Reader_seesNewName z⟩
          | false =>
            rw [hb] at z
            dsimp only at z
            cases z)
      (fun _ _ _ _ z => by cases z)
      (fun _ _ _ _ z => by cases z)
      (fun j as h x z => by
      dsimp only [C_Reader_readMark] at z
      cases hb : Nat.beq j 42 with
      | true =>
        have hb := Nat.eq_of_beq_eq_true hb
        subst hb
        exact ⟨0, by decide, (fun z => by cases z), s_Names_add z⟩
      | false =>
        rw [hb] at z
        dsimp only at z
        cases hb : Nat.beq j 57 with
        | true =>
          have hb := Nat.eq_of_beq_eq_true hb
          subst hb
          exact ⟨2, by decide, (fun z => by cases z), s_Reader_advance z⟩
        | false =>
          rw [hb] at z
          dsimp only at z
          cases z)
      (fun p e R s m args below meth c Q n0 F hret => ?_)
    rw [m1] at F hret ⊢
    rw [mc_Reader_readMark] at F hret
    exact cuts_s (K := 400) (M := 91) (D := D_Reader_readMark N) (B := fun _ _ _ _ _ => none) F hret (chkT_ok chk_Reader_readMark) (hM_Reader_readMark N) (fun _ _ _ _ _ z => by cases z) (hD_Reader_readMark N) N 0 _ _ _ hf
  · cases hf
def T_Reader_seeCell : List (List (Option RW)) := [
  [some (.aload_n 0, 1, [0], 0, 0), some (.invokevirtual 129, 3, [0, 64, 1, 0], 0, 0), none, none, some (.ifCond .ne 15, 3, [19], 0, 0), none, none, some (.aload_n 0, 1, [0], 0, 0), some (.iconst 2, 1, [], 2, 0), some (.aload_n 0, 1, [0], 0, 0), some (.getfield 25, 3, [7, 4, 0], 0, 0), none, none, some (.invokevirtual 85, 3, [0, 56, 3, 0], 0, 0), none, none, some (.pop, 1, [], 0, 0), some (.iconst (-1), 1, [], (-1), 0), some (.ireturn, 1, [], 0, 0), some (.aload_n 0, 1, [0], 0, 0), some (.getfield 50, 3, [7, 10, 2, 0, 5, 8], 0, 0), none, none, some (.aload_n 0, 1, [0], 0, 0), some (.getfield 9, 3, [7, 0, 2, 3, 600, 1], 0, 0), none, none, some (.aload_n 0, 1, [0], 0, 0), some (.getfield 25, 3, [7, 4, 0], 0, 0), none, none, some (.aload_n 0, 1, [0], 0, 0)],
  [some (.getfield 28, 3, [7, 5, 0], 0, 0), none, none, some (.invokevirtual 132, 3, [1, 43, 4, 0], 0, 0), none, none, some (.istore_n 1, 1, [1], 0, 0), some (.iload_n 1, 1, [1], 0, 0), some (.ifCond .lt 15, 3, [55], 0, 0), none, none, some (.aload_n 0, 1, [0], 0, 0), some (.getfield 50, 3, [7, 10, 2, 0, 5, 8], 0, 0), none, none, some (.getfield 136, 3, [5, 3, 2, 1, 14, 4], 0, 0), none, none, some (.iload_n 1, 1, [1], 0, 0), some (.iaload, 1, [], 0, 0), some (.ifCond .ne 15, 3, [67], 0, 0), none, none, some (.aload_n 0, 1, [0], 0, 0), some (.iconst 3, 1, [], 3, 0), some (.aload_n 0, 1, [0], 0, 0), some (.getfield 25, 3, [7, 4, 0], 0, 0), none, none, some (.invokevirtual 85, 3, [0, 56, 3, 0], 0, 0), none, none],
  [some (.pop, 1, [], 0, 0), some (.iconst (-1), 1, [], (-1), 0), some (.ireturn, 1, [], 0, 0), some (.aload_n 0, 1, [0], 0, 0), some (.invokevirtual 65, 3, [0, 57, 1, 3], 0, 0), none, none, some (.aload_n 0, 1, [0], 0, 0), some (.iconst 0, 1, [], 0, 0), some (.aload_n 0, 1, [0], 0, 0), some (.getfield 50, 3, [7, 10, 2, 0, 5, 8], 0, 0), none, none, some (.getfield 136, 3, [5, 3, 2, 1, 14, 4], 0, 0), none, none, some (.iload_n 1, 1, [1], 0, 0), some (.iaload, 1, [], 0, 0), some (.iconst 1, 1, [], 1, 0), some (.isub, 1, [], 0, 0), some (.invokevirtual 140, 3, [0, 66, 3, 0], 0, 0), none, none, some (.ifCond .eq 20, 3, [107], 0, 0), none, none, some (.aload_n 0, 1, [0], 0, 0), some (.getfield 50, 3, [7, 10, 2, 0, 5, 8], 0, 0), none, none, some (.getfield 143, 3, [5, 2, 2, 1, 14, 3], 0, 0), none],
  [none, some (.iload_n 1, 1, [1], 0, 0), some (.iaload, 1, [], 0, 0), some (.aload_n 0, 1, [0], 0, 0), some (.getfield 31, 3, [7, 6, 0], 0, 0), none, none, some (.iadd, 1, [], 0, 0), some (.goto 4, 3, [108], 0, 0), none, none, some (.iconst (-1), 1, [], (-1), 0), some (.ireturn, 1, [], 0, 0)]]
def f_Reader_seeCell (N : Nat) (h : MH) : Option (Int32 × MH) :=
  (f_Reader_isName N h).bind (fun x1 =>
  if x1.1 = 0 then
  ((f_Reader_fail N 2 (gI x1.2 3 4) x1.2).bind (fun x2 =>
  some ((-1), x2.2)))
  else
  ((f_Names_find N (gI x1.2 3 4) (gI x1.2 3 5) x1.2).bind (fun x3 =>
  if x3.1 < 0 then
  ((f_Reader_fail N 3 (gI x3.2 3 4) x3.2).bind (fun x4 =>
  some ((-1), x4.2)))
  else
  (if inB x3.1 14 = true then
  (if (gI x3.2 15 (iN x3.1)) = 0 then
  ((f_Reader_fail N 3 (gI x3.2 3 4) x3.2).bind (fun x5 =>
  some ((-1), x5.2)))
  else
  ((f_Reader_advance N x3.2).bind (fun x6 =>
  if inB x3.1 14 = true then
  ((f_Reader_seesNumber N 0 ((gI x6 15 (iN x3.1)) - 1) x6).bind (fun x7 =>
  if x7.1 = 0 then
  (some ((-1), x7.2))
  else
  (if inB x3.1 14 = true then
  (some ((gI x7.2 14 (iN x3.1)) + (gI x7.2 3 6), x7.2))
  else none)))
  else none)))
  else none))))
def C_Reader_seeCell (N : Nat) : MC := (KDL, false, (fun _ => 0), jsB, (fun j => match Nat.beq j 43 with
    | true => w_Names_find (f_Names_find N)
    | false => match Nat.beq j 56 with
    | true => w_Reader_fail (f_Reader_fail N)
    | false => match Nat.beq j 64 with
    | true => w_Reader_isName (f_Reader_isName N)
    | false => match Nat.beq j 66 with
    | true => w_Reader_seesNumber (f_Reader_seesNumber N)
    | false => fun _ _ => none), (fun _ _ _ => none), (fun _ _ _ => none), (fun j => match Nat.beq j 57 with
    | true => w_Reader_advance (f_Reader_advance N)
    | false => fun _ _ => none))
def D_Reader_seeCell (N : Nat) (n pc : Nat) (lv : ML) (st : List MV) (h : MH) : Option (Int32 × MH) :=
  match Nat.beq pc 0 with
  | true => (match lk lv 0, st with
    | some (.inr (.inr (0, 7, 3))), [] => f_Reader_seeCell N h
    | _, _ => none)
  | false => none
set_option maxRecDepth 1000000 in
theorem E_Reader_seeCell_0 (N : Nat) (n : Nat) (h : MH) : seg (C_Reader_seeCell N) 2 0 rI T_Reader_seeCell [0] (fun q lv st h => match Nat.ble 1 q with
    | true => D_Reader_seeCell N n q lv st h
    | false => none) 400 true 0 [(0, .inr (.inr (0, 7, 3)))] [] h = f_Reader_seeCell N h := (rfl)
set_option maxRecDepth 1000000 in
theorem chk_Reader_seeCell : chkT 7 false prog_9_method_19_code T_Reader_seeCell = true := by decide +kernel
theorem mc_Reader_seeCell : mC 69 = prog_9_method_19_code := by rfl
theorem mx_Reader_seeCell : mL 69 = 2 ∧ mR 69 = some .int ∧ mK 69 = 1 ∧ (mN 69).cls = cN 7 := by decide +kernel
theorem hD_Reader_seeCell (N : Nat) {r : Int32 × MH} : ∀ n pc lv st h, D_Reader_seeCell N n pc lv st h = some r → ∃ lv', (∀ q ∈ lv', q ∈ lv) ∧ seg (C_Reader_seeCell N) 2 0 rI T_Reader_seeCell [0] (fun q lv st h => match Nat.ble (pc + 1) q with
    | true => D_Reader_seeCell N n q lv st h
    | false => none) 400 true pc lv' st h = some r := by
  intro n pc lv st h hf
  unfold D_Reader_seeCell at hf
  split at hf
  · rename_i hb
    have hb := Nat.eq_of_beq_eq_true hb
    subst hb
    split at hf
    · rename_i e0
      exact ⟨_, (sub_cons e0 sub_nil), (E_Reader_seeCell_0 N n h).trans hf⟩
    · cases hf
  · skip
    cases hf
theorem hM_Reader_seeCell (N : Nat) {r : Int32 × MH} : ∀ n pc lv st h, D_Reader_seeCell N n pc lv st h = some r → pc < 109 := by
  intro n pc lv st h hf
  unfold D_Reader_seeCell at hf
  split at hf
  · rename_i hb
    rw [Nat.eq_of_beq_eq_true hb]
    decide
  · skip
    cases hf
theorem s_Reader_seeCell {l : Launch} {E : EV} {N : Nat} {as : List MV} {h : MH} {r : Int32 × MH} (hf : w_Reader_seeCell (f_Reader_seeCell N) as h = some r) : SndM l E false 6 69 as h (some (.inl r.1)) r.2 := by
  unfold w_Reader_seeCell at hf
  split at hf
  · obtain ⟨m1, m2, m3, m4⟩ := mx_Reader_seeCell
    refine snd_of (C := C_Reader_seeCell N) (own := 7) (rz := 0) (lim := 115) rI_eq m2 m4 pl_69 (TB_in _ cw_69 rfl) ⟨(fun _ => ⟨_, _, _, _, _, _, rfl, rfl, by rw [m4]; rfl⟩), (fun z => by rw [m3] at z; cases z)⟩ (fun z => by cases z) KDL_take rfl rfl (fun z => by cases z) (fun z => by cases z) (fun _ => rfl) (by rw [m1]; exact Nat.le_of_ble_eq_true rfl)
      (fun j as h x z => by
      dsimp only [C_Reader_seeCell] at z
      cases hb : Nat.beq j 43 with
      | true =>
        have hb := Nat.eq_of_beq_eq_true hb
        subst hb
        exact ⟨1, by decide, (fun z => by cases z), s_Names_find z⟩
      | false =>
        rw [hb] at z
        dsimp only at z
        cases hb : Nat.beq j 56 with
        | true =>
          have hb := Nat.eq_of_beq_eq_true hb
          subst hb
          exact ⟨0, by decide, (fun z => by cases z), s_Reader_fail z⟩
        | false =>
          rw [hb] at z
          dsimp only at z
          cases hb : Nat.beq j 64 with
          | true =>
            have hb := Nat.eq_of_beq_eq_true hb
            subst hb
            exact ⟨5, by decide, (fun z => by cases z), s_Reader_isName z⟩
          | false =>
            rw [hb] at z
            dsimp only at z
            cases hb : Nat.beq j 66 with
            | true =>
              have hb := Nat.eq_of_beq_eq_true hb
              subst hb
              exact ⟨1, by decide, (fun z => by cases z), s_Reader_seesNumber z⟩
            | false =>
              rw [hb] at z
              dsimp only at z
              cases z)
      (fun _ _ _ _ z => by cases z)
      (fun _ _ _ _ z => by cases z)
      (fun j as h x z => by
      dsimp only [C_Reader_seeCell] at z
      cases hb : Nat.beq j 57 with
      | true =>
        have hb := Nat.eq_of_beq_eq_true hb
        subst hb
        exact ⟨2, by decide, (fun z => by cases z), s_Reader_advance z⟩
      | false =>
        rw [hb] at z
        dsimp only at z
        cases z)
      (fun p e R s m args below meth c Q n0 F hret => ?_)
    rw [m1] at F hret ⊢
    rw [mc_Reader_seeCell] at F hret
    exact cuts_s (K := 400) (M := 109) (D := D_Reader_seeCell N) (B := fun _ _ _ _ _ => none) F hret (chkT_ok chk_Reader_seeCell) (hM_Reader_seeCell N) (fun _ _ _ _ _ z => by cases z) (hD_Reader_seeCell N) N 0 _ _ _ hf
  · cases hf
def T_Reader_readNear : List (List (Option RW)) := [
  [some (.aload_n 0, 1, [0], 0, 0), some (.invokevirtual 65, 3, [0, 57, 1, 3], 0, 0), none, none, some (.aload_n 0, 1, [0], 0, 0), some (.invokevirtual 183, 3, [0, 69, 1, 0], 0, 0), none, none, some (.istore_n 2, 1, [2], 0, 0), some (.iload_n 2, 1, [2], 0, 0), some (.ifCond .ge 5, 3, [15], 0, 0), none, none, some (.iconst 0, 1, [], 0, 0), some (.ireturn, 1, [], 0, 0), some (.aload_n 0, 1, [0], 0, 0), some (.invokevirtual 65, 3, [0, 57, 1, 3], 0, 0), none, none, some (.aload_n 0, 1, [0], 0, 0), some (.invokevirtual 183, 3, [0, 69, 1, 0], 0, 0), none, none, some (.istore_n 3, 1, [3], 0, 0), some (.iload_n 3, 1, [3], 0, 0), some (.ifCond .ge 5, 3, [30], 0, 0), none, none, some (.iconst 0, 1, [], 0, 0), some (.ireturn, 1, [], 0, 0), some (.iload_n 3, 1, [3], 0, 0), some (.iload_n 2, 1, [2], 0, 0)],
  [some (.if_icmp .ne 13, 3, [45], 0, 0), none, none, some (.aload_n 0, 1, [0], 0, 0), some (.iconst 4, 1, [], 4, 0), some (.aload_n 0, 1, [0], 0, 0), some (.getfield 25, 3, [7, 4, 0], 0, 0), none, none, some (.invokevirtual 85, 3, [0, 56, 3, 0], 0, 0), none, none, some (.ireturn, 1, [], 0, 0), some (.aload_n 0, 1, [0], 0, 0), some (.invokevirtual 65, 3, [0, 57, 1, 3], 0, 0), none, none, some (.aload_n 0, 1, [0], 0, 0), some (.invokevirtual 169, 3, [0, 67, 1, 0], 0, 0), none, none, some (.ifCond .ne 5, 3, [58], 0, 0), none, none, some (.iconst 0, 1, [], 0, 0), some (.ireturn, 1, [], 0, 0), some (.aload_n 0, 1, [0], 0, 0), some (.getfield 43, 3, [7, 9, 3, 0, 2], 0, 0), none, none, some (.iload_n 2, 1, [2], 0, 0), some (.iload_n 3, 1, [3], 0, 0)],
  [some (.invokevirtual 186, 3, [1, 16, 3, 0], 0, 0), none, none, some (.ifCond .eq 11, 3, [78], 0, 0), none, none, some (.aload_n 0, 1, [0], 0, 0), some (.bipush 6, 2, [], 6, 0), none, some (.iload_n 1, 1, [1], 0, 0), some (.invokevirtual 85, 3, [0, 56, 3, 0], 0, 0), none, none, some (.ireturn, 1, [], 0, 0), some (.aload_n 0, 1, [0], 0, 0), some (.getfield 43, 3, [7, 9, 3, 0, 2], 0, 0), none, none, some (.getfield 189, 3, [2, 3, 2, 1, 6, 2], 0, 0), none, none, some (.iload_n 2, 1, [2], 0, 0), some (.dup2, 1, [], 0, 0), some (.iaload, 1, [], 0, 0), some (.iconst 1, 1, [], 1, 0), some (.iload_n 3, 1, [3], 0, 0), some (.ishl, 1, [], 0, 0), some (.ior, 1, [], 0, 0), some (.iastore, 1, [], 0, 0), some (.aload_n 0, 1, [0], 0, 0), some (.getfield 43, 3, [7, 9, 3, 0, 2], 0, 0), none],
  [none, some (.getfield 189, 3, [2, 3, 2, 1, 6, 2], 0, 0), none, none, some (.iload_n 3, 1, [3], 0, 0), some (.dup2, 1, [], 0, 0), some (.iaload, 1, [], 0, 0), some (.iconst 1, 1, [], 1, 0), some (.iload_n 2, 1, [2], 0, 0), some (.ishl, 1, [], 0, 0), some (.ior, 1, [], 0, 0), some (.iastore, 1, [], 0, 0), some (.iconst 1, 1, [], 1, 0), some (.ireturn, 1, [], 0, 0)]]
def f_Reader_readNear (N : Nat) (a1 : Int32) (h : MH) : Option (Int32 × MH) :=
  (f_Reader_advance N h).bind (fun x1 =>
  (f_Reader_seeCell N x1).bind (fun x2 =>
  if 0 ≤ x2.1 then
  ((f_Reader_advance N x2.2).bind (fun x3 =>
  (f_Reader_seeCell N x3).bind (fun x4 =>
  if 0 ≤ x4.1 then
  (if x4.1 = x2.1 then
  ((f_Reader_fail N 4 (gI x4.2 3 4) x4.2).bind (fun x5 =>
  match narOK 1 x5.1 with
  | true => some (x5.1, x5.2)
  | false => none))
  else
  ((f_Reader_advance N x4.2).bind (fun x6 =>
  (f_Reader_seesEnd N x6).bind (fun x7 =>
  if x7.1 = 0 then
  (some (0, x7.2))
  else
  ((f_Land_areNear N (gR x7.2 3 9) x2.1 x4.1 x7.2).bind (fun x8 =>
  if x8.1 = 0 then
  (if inB x2.1 6 = true then
  (if inB x2.1 6 = true then
  (let h9 : MH := sI x8.2 ((gR x8.2 3 9) + 2) (iN x2.1) ((gI x8.2 ((gR x8.2 3 9) + 2) (iN x2.1)) ||| ((1 : Int32) <<< (x4.1 &&& 31)))
  if inB x4.1 6 = true then
  (if inB x4.1 6 = true then
  (let h10 : MH := sI h9 ((gR h9 3 9) + 2) (iN x4.1) ((gI h9 ((gR h9 3 9) + 2) (iN x4.1)) ||| ((1 : Int32) <<< (x2.1 &&& 31)))
  some (1, h10))
  else none)
  else none)
  else none)
  else none)
  else
  ((f_Reader_fail N 6 a1 x8.2).bind (fun x11 =>
  match narOK 1 x11.1 with
  | true => some (x11.1, x11.2)
  | false => none))))))))
  else
  (some (0, x4.2)))))
  else
  (some (0, x2.2))))
def C_Reader_readNear (N : Nat) : MC := (KDL, false, (fun _ => 0), jsB, (fun j => match Nat.beq j 16 with
    | true => w_Land_areNear (f_Land_areNear N)
    | false => match Nat.beq j 56 with
    | true => w_Reader_fail (f_Reader_fail N)
    | false => match Nat.beq j 67 with
    | true => w_Reader_seesEnd (f_Reader_seesEnd N)
    | false => match Nat.beq j 69 with
    | true => w_Reader_seeCell (f_Reader_seeCell N)
    | false => fun _ _ => none), (fun _ _ _ => none), (fun _ _ _ => none), (fun j => match Nat.beq j 57 with
    | true => w_Reader_advance (f_Reader_advance N)
    | false => fun _ _ => none))
def D_Reader_readNear (N : Nat) (n pc : Nat) (lv : ML) (st : List MV) (h : MH) : Option (Int32 × MH) :=
  match Nat.beq pc 0 with
  | true => (match lk lv 0, lk lv 1, st with
    | some (.inr (.inr (0, 7, 3))), some (.inl a1), [] => f_Reader_readNear N a1 h
    | _, _, _ => none)
  | false => none
set_option maxRecDepth 1000000 in
theorem E_Reader_readNear_0 (N : Nat) (n : Nat) (a1 : Int32) (h : MH) : seg (C_Reader_readNear N) 4 1 rI T_Reader_readNear [0] (fun q lv st h => match Nat.ble 1 q with
    | true => D_Reader_readNear N n q lv st h
    | false => none) 400 true 0 [(0, .inr (.inr (0, 7, 3))), (1, .inl a1)] [] h = f_Reader_readNear N a1 h := (rfl)
set_option maxRecDepth 1000000 in
theorem chk_Reader_readNear : chkT 7 false prog_9_method_23_code T_Reader_readNear = true := by decide +kernel
theorem mc_Reader_readNear : mC 73 = prog_9_method_23_code := by rfl
theorem mx_Reader_readNear : mL 73 = 4 ∧ mR 73 = some .boolean ∧ mK 73 = 1 ∧ (mN 73).cls = cN 7 := by decide +kernel
theorem hD_Reader_readNear (N : Nat) {r : Int32 × MH} : ∀ n pc lv st h, D_Reader_readNear N n pc lv st h = some r → ∃ lv', (∀ q ∈ lv', q ∈ lv) ∧ seg (C_Reader_readNear N) 4 1 rI T_Reader_readNear [0] (fun q lv st h => match Nat.ble (pc + 1) q with
    | true => D_Reader_readNear N n q lv st h
    | false => none) 400 true pc lv' st h = some r := by
  intro n pc lv st h hf
  unfold D_Reader_readNear at hf
  split at hf
  · rename_i hb
    have hb := Nat.eq_of_beq_eq_true hb
    subst hb
    split at hf
    · rename_i y0 e0 e1
      exact ⟨_, (sub_cons e0 (sub_cons e1 sub_nil)), (E_Reader_readNear_0 N n _ h).trans hf⟩
    · cases hf
  · skip
    cases hf
theorem hM_Reader_readNear (N : Nat) {r : Int32 × MH} : ∀ n pc lv st h, D_Reader_readNear N n pc lv st h = some r → pc < 110 := by
  intro n pc lv st h hf
  unfold D_Reader_readNear at hf
  split at hf
  · rename_i hb
    rw [Nat.eq_of_beq_eq_true hb]
    decide
  · skip
    cases hf
theorem s_Reader_readNear {l : Launch} {E : EV} {N : Nat} {as : List MV} {h : MH} {r : Int32 × MH} (hf : w_Reader_readNear (f_Reader_readNear N) as h = some r) : SndM l E false 7 73 as h (some (.inl r.1)) r.2 := by
  unfold w_Reader_readNear at hf
  split at hf
  · obtain ⟨m1, m2, m3, m4⟩ := mx_Reader_readNear
    refine snd_of (C := C_Reader_readNear N) (own := 7) (rz := 1) (lim := 115) rI_eq m2 m4 pl_73 (TB_in _ cw_73 rfl) ⟨(fun _ => ⟨_, _, _, _, _, _, rfl, rfl, by rw [m4]; rfl⟩), (fun z => by rw [m3] at z; cases z)⟩ (fun z => by cases z) KDL_take rfl rfl (fun z => by cases z) (fun z => by cases z) (fun _ => rfl) (by rw [m1]; exact Nat.le_of_ble_eq_true rfl)
      (fun j as h x z => by
      dsimp only [C_Reader_readNear] at z
      cases hb : Nat.beq j 16 with
      | true =>
        have hb := Nat.eq_of_beq_eq_true hb
        subst hb
        exact ⟨0, by decide, (fun z => by cases z), s_Land_areNear z⟩
      | false =>
        rw [hb] at z
        dsimp only at z
        cases hb : Nat.beq j 56 with
        | true =>
          have hb := Nat.eq_of_beq_eq_true hb
          subst hb
          exact ⟨0, by decide, (fun z => by cases z), s_Reader_fail z⟩
        | false =>
          rw [hb] at z
          dsimp only at z
          cases hb : Nat.beq j 67 with
          | true =>
            have hb := Nat.eq_of_beq_eq_true hb
            subst hb
            exact ⟨1, by decide, (fun z => by cases z), s_Reader_seesEnd z⟩
          | false =>
            rw [hb] at z
            dsimp only at z
            cases hb : Nat.beq j 69 with
            | true =>
              have hb := Nat.eq_of_beq_eq_true hb
              subst hb
              exact ⟨6, by decide, (fun z => by cases z), s_Reader_seeCell z⟩
            | false =>
              rw [hb] at z
              dsimp only at z
              cases z)
      (fun _ _ _ _ z => by cases z)
      (fun _ _ _ _ z => by cases z)
      (fun j as h x z => by
      dsimp only [C_Reader_readNear] at z
      cases hb : Nat.beq j 57 with
      | true =>
        have hb := Nat.eq_of_beq_eq_true hb
        subst hb
        exact ⟨2, by decide, (fun z => by cases z), s_Reader_advance z⟩
      | false =>
        rw [hb] at z
        dsimp only at z
        cases z)
      (fun p e R s m args below meth c Q n0 F hret => ?_)
    rw [m1] at F hret ⊢
    rw [mc_Reader_readNear] at F hret
    exact cuts_s (K := 400) (M := 110) (D := D_Reader_readNear N) (B := fun _ _ _ _ _ => none) F hret (chkT_ok chk_Reader_readNear) (hM_Reader_readNear N) (fun _ _ _ _ _ z => by cases z) (hD_Reader_readNear N) N 0 _ _ _ hf
  · cases hf
def T_Reader_readAtom : List (List (Option RW)) := [
  [some (.aload_n 0, 1, [0], 0, 0), some (.bipush 45, 2, [], 45, 0), none, some (.invokevirtual 125, 3, [0, 62, 2, 0], 0, 0), none, none, some (.istore_n 2, 1, [2], 0, 0), some (.aload_n 0, 1, [0], 0, 0), some (.getfield 22, 3, [7, 3, 0], 0, 0), none, none, some (.iconst 2, 1, [], 2, 0), some (.if_icmp .ne 15, 3, [27], 0, 0), none, none, some (.aload_n 0, 1, [0], 0, 0), some (.getfield 31, 3, [7, 6, 0], 0, 0), none, none, some (.i2l, 1, [], 0, 0), some (.lstore_n 3, 1, [3], 0, 0), some (.aload_n 0, 1, [0], 0, 0), some (.invokevirtual 65, 3, [0, 57, 1, 3], 0, 0), none, none, some (.lload_n 3, 1, [3], 0, 0), some (.lreturn, 1, [], 0, 0), some (.iload_n 2, 1, [2], 0, 0), some (.ifCond .ne 24, 3, [52], 0, 0), none, none, some (.aload_n 0, 1, [0], 0, 0)],
  [some (.bipush 40, 2, [], 40, 0), none, some (.invokevirtual 125, 3, [0, 62, 2, 0], 0, 0), none, none, some (.ifCond .ne 15, 3, [52], 0, 0), none, none, some (.aload_n 0, 1, [0], 0, 0), some (.iconst 2, 1, [], 2, 0), some (.aload_n 0, 1, [0], 0, 0), some (.getfield 25, 3, [7, 4, 0], 0, 0), none, none, some (.invokevirtual 85, 3, [0, 56, 3, 0], 0, 0), none, none, some (.pop, 1, [], 0, 0), some (.lconst 0, 1, [], 0, 0), some (.lreturn, 1, [], 0, 0), some (.iload_n 1, 1, [1], 0, 0), some (.bipush 6, 2, [], 6, 0), none, some (.if_icmp .lt 15, 3, [70], 0, 0), none, none, some (.aload_n 0, 1, [0], 0, 0), some (.iconst 5, 1, [], 5, 0), some (.aload_n 0, 1, [0], 0, 0), some (.getfield 25, 3, [7, 4, 0], 0, 0), none, none],
  [some (.invokevirtual 85, 3, [0, 56, 3, 0], 0, 0), none, none, some (.pop, 1, [], 0, 0), some (.lconst 0, 1, [], 0, 0), some (.lreturn, 1, [], 0, 0), some (.aload_n 0, 1, [0], 0, 0), some (.invokevirtual 65, 3, [0, 57, 1, 3], 0, 0), none, none, some (.iload_n 2, 1, [2], 0, 0), some (.ifCond .eq 12, 3, [87], 0, 0), none, none, some (.aload_n 0, 1, [0], 0, 0), some (.iload_n 1, 1, [1], 0, 0), some (.iconst 1, 1, [], 1, 0), some (.iadd, 1, [], 0, 0), some (.invokevirtual 211, 3, [0, 78, 2, 1], 0, 0), none, none, some (.lneg, 1, [], 0, 0), some (.lreturn, 1, [], 0, 0), some (.aload_n 0, 1, [0], 0, 0), some (.iload_n 1, 1, [1], 0, 0), some (.iconst 1, 1, [], 1, 0), some (.iadd, 1, [], 0, 0), some (.invokevirtual 191, 3, [0, 76, 2, 1], 0, 0), none, none, some (.lstore_n 3, 1, [3], 0, 0), some (.aload_n 0, 1, [0], 0, 0)],
  [some (.bipush 41, 2, [], 41, 0), none, some (.invokevirtual 125, 3, [0, 62, 2, 0], 0, 0), none, none, some (.ifCond .ne 15, 3, [116], 0, 0), none, none, some (.aload_n 0, 1, [0], 0, 0), some (.iconst 2, 1, [], 2, 0), some (.aload_n 0, 1, [0], 0, 0), some (.getfield 25, 3, [7, 4, 0], 0, 0), none, none, some (.invokevirtual 85, 3, [0, 56, 3, 0], 0, 0), none, none, some (.pop, 1, [], 0, 0), some (.lconst 0, 1, [], 0, 0), some (.lreturn, 1, [], 0, 0), some (.aload_n 0, 1, [0], 0, 0), some (.invokevirtual 65, 3, [0, 57, 1, 3], 0, 0), none, none, some (.lload_n 3, 1, [3], 0, 0), some (.lreturn, 1, [], 0, 0)]]
def F_Reader_readAtom_52 (N : Nat) (rc : (Int32 → MH → Option (Int64 × MH)) × (Int32 → MH → Option (Int64 × MH))) (a1 : Int32) (a2 : Int32) (h : MH) : Option (Int64 × MH) :=
  if a1 < 6 then
  ((f_Reader_advance N h).bind (fun x6 =>
  if a2 = 0 then
  ((rc.2 (a1 + 1) x6).bind (fun x7 =>
  (f_Reader_isSign N 41 x7.2).bind (fun x8 =>
  if x8.1 = 0 then
  ((f_Reader_fail N 2 (gI x8.2 3 4) x8.2).bind (fun x9 =>
  some (0, x9.2)))
  else
  ((f_Reader_advance N x8.2).bind (fun x10 =>
  some (x7.1, x10))))))
  else
  ((rc.1 (a1 + 1) x6).bind (fun x11 =>
  some (-x11.1, x11.2)))))
  else
  ((f_Reader_fail N 5 (gI h 3 4) h).bind (fun x12 =>
  some (0, x12.2)))
def g_Reader_readAtom (N : Nat) (rc : (Int32 → MH → Option (Int64 × MH)) × (Int32 → MH → Option (Int64 × MH))) (a1 : Int32) (h : MH) : Option (Int64 × MH) :=
  (f_Reader_isSign N 45 h).bind (fun x1 =>
  if (gI x1.2 3 3) = 2 then
  (let v2 : Int64 := ((gI x1.2 3 6)).toInt64
  (f_Reader_advance N x1.2).bind (fun x3 =>
  some (v2, x3)))
  else
  (if x1.1 = 0 then
  ((f_Reader_isSign N 40 x1.2).bind (fun x4 =>
  if x4.1 = 0 then
  ((f_Reader_fail N 2 (gI x4.2 3 4) x4.2).bind (fun x5 =>
  some (0, x5.2)))
  else
  (F_Reader_readAtom_52 N rc a1 x1.1 x4.2)))
  else
  (F_Reader_readAtom_52 N rc a1 x1.1 x1.2)))
def C_Reader_readAtom (N : Nat) (rc : (Int32 → MH → Option (Int64 × MH)) × (Int32 → MH → Option (Int64 × MH))) : MC := (KDL, false, (fun _ => 0), jsB, (fun j => match Nat.beq j 56 with
    | true => w_Reader_fail (f_Reader_fail N)
    | false => match Nat.beq j 62 with
    | true => w_Reader_isSign (f_Reader_isSign N)
    | false => fun _ _ => none), (fun j => match Nat.beq j 76 with
    | true => w_Reader_readSum (rc.2)
    | false => match Nat.beq j 78 with
    | true => w_Reader_readAtom (rc.1)
    | false => fun _ _ => none), (fun _ _ _ => none), (fun j => match Nat.beq j 57 with
    | true => w_Reader_advance (f_Reader_advance N)
    | false => fun _ _ => none))
def D_Reader_readAtom (N : Nat) (rc : (Int32 → MH → Option (Int64 × MH)) × (Int32 → MH → Option (Int64 × MH))) (n pc : Nat) (lv : ML) (st : List MV) (h : MH) : Option (Int64 × MH) :=
  match Nat.beq pc 0 with
  | true => (match lk lv 0, lk lv 1, st with
    | some (.inr (.inr (0, 7, 3))), some (.inl a1), [] => g_Reader_readAtom N rc a1 h
    | _, _, _ => none)
  | false => match Nat.beq pc 52 with
  | true => (match lk lv 0, lk lv 1, lk lv 2, st with
    | some (.inr (.inr (0, 7, 3))), some (.inl a1), some (.inl a2), [] => F_Reader_readAtom_52 N rc a1 a2 h
    | _, _, _, _ => none)
  | false => none
set_option maxRecDepth 1000000 in
theorem E_Reader_readAtom_0 (N : Nat) (rc : (Int32 → MH → Option (Int64 × MH)) × (Int32 → MH → Option (Int64 × MH))) (n : Nat) (a1 : Int32) (h : MH) : seg (C_Reader_readAtom N rc) 5 0 rJ T_Reader_readAtom [0, 52] (fun q lv st h => match Nat.ble 1 q with
    | true => D_Reader_readAtom N rc n q lv st h
    | false => none) 400 true 0 [(0, .inr (.inr (0, 7, 3))), (1, .inl a1)] [] h = g_Reader_readAtom N rc a1 h := (rfl)
set_option maxRecDepth 1000000 in
theorem E_Reader_readAtom_52 (N : Nat) (rc : (Int32 → MH → Option (Int64 × MH)) × (Int32 → MH → Option (Int64 × MH))) (n : Nat) (a1 : Int32) (a2 : Int32) (h : MH) : seg (C_Reader_readAtom N rc) 5 0 rJ T_Reader_readAtom [0, 52] (fun q lv st h => match Nat.ble 53 q with
    | true => D_Reader_readAtom N rc n q lv st h
    | false => none) 400 true 52 [(0, .inr (.inr (0, 7, 3))), (1, .inl a1), (2, .inl a2)] [] h = F_Reader_readAtom_52 N rc a1 a2 h := (rfl)
set_option maxRecDepth 1000000 in
theorem chk_Reader_readAtom : chkT 7 false prog_9_method_28_code T_Reader_readAtom = true := by decide +kernel
theorem mc_Reader_readAtom : mC 78 = prog_9_method_28_code := by rfl
theorem mx_Reader_readAtom : mL 78 = 5 ∧ mR 78 = some .long ∧ mK 78 = 1 ∧ (mN 78).cls = cN 7 := by decide +kernel
theorem hD_Reader_readAtom (N : Nat) (rc : (Int32 → MH → Option (Int64 × MH)) × (Int32 → MH → Option (Int64 × MH))) {r : Int64 × MH} : ∀ n pc lv st h, D_Reader_readAtom N rc n pc lv st h = some r → ∃ lv', (∀ q ∈ lv', q ∈ lv) ∧ seg (C_Reader_readAtom N rc) 5 0 rJ T_Reader_readAtom [0, 52] (fun q lv st h => match Nat.ble (pc + 1) q with
    | true => D_Reader_readAtom N rc n q lv st h
    | false => none) 400 true pc lv' st h = some r := by
  intro n pc lv st h hf
  unfold D_Reader_readAtom at hf
  split at hf
  · rename_i hb
    have hb := Nat.eq_of_beq_eq_true hb
    subst hb
    split at hf
    · rename_i y0 e0 e1
      exact ⟨_, (sub_cons e0 (sub_cons e1 sub_nil)), (E_Reader_readAtom_0 N rc n _ h).trans hf⟩
    · cases hf
  · skip
    split at hf
    · rename_i hb
      have hb := Nat.eq_of_beq_eq_true hb
      subst hb
      split at hf
      · rename_i y0 y1 e0 e1 e2
        exact ⟨_, (sub_cons e0 (sub_cons e1 (sub_cons e2 sub_nil))), (E_Reader_readAtom_52 N rc n _ _ h).trans hf⟩
      · cases hf
    · skip
      cases hf
theorem hM_Reader_readAtom (N : Nat) (rc : (Int32 → MH → Option (Int64 × MH)) × (Int32 → MH → Option (Int64 × MH))) {r : Int64 × MH} : ∀ n pc lv st h, D_Reader_readAtom N rc n pc lv st h = some r → pc < 122 := by
  intro n pc lv st h hf
  unfold D_Reader_readAtom at hf
  split at hf
  · rename_i hb
    rw [Nat.eq_of_beq_eq_true hb]
    decide
  · skip
    split at hf
    · rename_i hb
      rw [Nat.eq_of_beq_eq_true hb]
      decide
    · skip
      cases hf
theorem sg_Reader_readAtom {l : Launch} {E : EV} {N : Nat} {rc : (Int32 → MH → Option (Int64 × MH)) × (Int32 → MH → Option (Int64 × MH))} {dp d0 d1 : Nat} (hc : 3 ≤ dp) (h0 : d0 + 1 ≤ dp) (q0 : ∀ as h r, w_Reader_readAtom (rc.1) as h = some r → SndM l E false d0 78 as h (some (.inr (.inl r.1))) r.2) (h1 : d1 + 1 ≤ dp) (q1 : ∀ as h r, w_Reader_readSum (rc.2) as h = some r → SndM l E false d1 76 as h (some (.inr (.inl r.1))) r.2) {as : List MV} {h : MH} {r : Int64 × MH} (hf : w_Reader_readAtom (g_Reader_readAtom N rc) as h = some r) : SndM l E false dp 78 as h (some (.inr (.inl r.1))) r.2 := by
  unfold w_Reader_readAtom at hf
  split at hf
  · obtain ⟨m1, m2, m3, m4⟩ := mx_Reader_readAtom
    refine snd_of (C := C_Reader_readAtom N rc) (own := 7) (rz := 0) (lim := 115) rJ_eq m2 m4 pl_78 (TB_in _ cw_78 rfl) ⟨(fun _ => ⟨_, _, _, _, _, _, rfl, rfl, by rw [m4]; rfl⟩), (fun z => by rw [m3] at z; cases z)⟩ (fun z => by cases z) KDL_take rfl rfl (fun z => by cases z) (fun z => by cases z) (fun _ => rfl) (by rw [m1]; exact Nat.le_of_ble_eq_true rfl)
      (fun j as h x z => by
      dsimp only [C_Reader_readAtom] at z
      cases hb : Nat.beq j 56 with
      | true =>
        have hb := Nat.eq_of_beq_eq_true hb
        subst hb
        exact ⟨0, by omega, (fun z => by cases z), s_Reader_fail z⟩
      | false =>
        rw [hb] at z
        dsimp only at z
        cases hb : Nat.beq j 62 with
        | true =>
          have hb := Nat.eq_of_beq_eq_true hb
          subst hb
          exact ⟨0, by omega, (fun z => by cases z), s_Reader_isSign z⟩
        | false =>
          rw [hb] at z
          dsimp only at z
          cases z)
      (fun j as h x z => by
      dsimp only [C_Reader_readAtom] at z
      cases hb : Nat.beq j 76 with
      | true =>
        have hb := Nat.eq_of_beq_eq_true hb
        subst hb
        exact ⟨_, h1, (fun z => by cases z), q1 _ _ _ z⟩
      | false =>
        rw [hb] at z
        dsimp only at z
        cases hb : Nat.beq j 78 with
        | true =>
          have hb := Nat.eq_of_beq_eq_true hb
          subst hb
          exact ⟨_, h0, (fun z => by cases z), q0 _ _ _ z⟩
        | false =>
          rw [hb] at z
          dsimp only at z
          cases z)
      (fun _ _ _ _ z => by cases z)
      (fun j as h x z => by
      dsimp only [C_Reader_readAtom] at z
      cases hb : Nat.beq j 57 with
      | true =>
        have hb := Nat.eq_of_beq_eq_true hb
        subst hb
        exact ⟨2, by omega, (fun z => by cases z), s_Reader_advance z⟩
      | false =>
        rw [hb] at z
        dsimp only at z
        cases z)
      (fun p e R s m args below meth c Q n0 F hret => ?_)
    rw [m1] at F hret ⊢
    rw [mc_Reader_readAtom] at F hret
    exact cuts_s (K := 400) (M := 122) (D := D_Reader_readAtom N rc) (B := fun _ _ _ _ _ => none) F hret (chkT_ok chk_Reader_readAtom) (hM_Reader_readAtom N rc) (fun _ _ _ _ _ z => by cases z) (hD_Reader_readAtom N rc) N 0 _ _ _ hf
  · cases hf
def T_Reader_readItem : List (List (Option RW)) := [
  [some (.aload_n 0, 1, [0], 0, 0), some (.iload_n 1, 1, [1], 0, 0), some (.invokevirtual 211, 3, [0, 78, 2, 1], 0, 0), none, none, some (.lstore_n 2, 1, [2], 0, 0), some (.iconst 0, 1, [], 0, 0), some (.istore 4, 2, [4], 0, 0), none, some (.iload 4, 2, [4], 0, 0), none, some (.sipush 600, 3, [], 600, 0), none, none, some (.if_icmp .ge 37, 3, [51], 0, 0), none, none, some (.aload_n 0, 1, [0], 0, 0), some (.getfield 34, 3, [7, 7, 0], 0, 0), none, none, some (.ifCond .ne 30, 3, [51], 0, 0), none, none, some (.aload_n 0, 1, [0], 0, 0), some (.bipush 42, 2, [], 42, 0), none, some (.invokevirtual 125, 3, [0, 62, 2, 0], 0, 0), none, none, some (.ifCond .eq 21, 3, [51], 0, 0), none],
  [none, some (.aload_n 0, 1, [0], 0, 0), some (.invokevirtual 65, 3, [0, 57, 1, 3], 0, 0), none, none, some (.lload_n 2, 1, [2], 0, 0), some (.aload_n 0, 1, [0], 0, 0), some (.iload_n 1, 1, [1], 0, 0), some (.invokevirtual 211, 3, [0, 78, 2, 1], 0, 0), none, none, some (.lmul, 1, [], 0, 0), some (.lstore_n 2, 1, [2], 0, 0), some (.iinc 4 1, 3, [4], 1, 0), none, none, some (.goto (-39), 3, [9], 0, 0), none, none, some (.lload_n 2, 1, [2], 0, 0), some (.lreturn, 1, [], 0, 0)]]
def F_Reader_readItem_9 (N : Nat) (rc : (Int32 → MH → Option (Int64 × MH))) (bk : (Int32 → Int64 → Int32 → MH → Option (Int64 × MH))) (a1 : Int32) (a2 : Int64) (a4 : Int32) (h : MH) : Option (Int64 × MH) :=
  if 600 ≤ a4 then
  (some (a2, h))
  else
  (if (gI h 3 7) = 0 then
  ((f_Reader_isSign N 42 h).bind (fun x2 =>
  if x2.1 = 0 then
  (some (a2, x2.2))
  else
  ((f_Reader_advance N x2.2).bind (fun x3 =>
  (rc a1 x3).bind (fun x4 =>
  let v5 : Int64 := a2 * x4.1
  let v6 : Int32 := a4 + 1
  bk a1 v5 v6 x4.2)))))
  else
  (some (a2, h)))
def F_Reader_readItem_0 (N : Nat) (rc : (Int32 → MH → Option (Int64 × MH))) (bk : (Int32 → Int64 → Int32 → MH → Option (Int64 × MH))) (a1 : Int32) (h : MH) : Option (Int64 × MH) :=
  (rc a1 h).bind (fun x1 =>
  F_Reader_readItem_9 N rc bk a1 x1.1 0 x1.2)
def L_Reader_readItem (N : Nat) (rc : (Int32 → MH → Option (Int64 × MH))) : Nat → (Int32 → Int64 → Int32 → MH → Option (Int64 × MH))
  | 0 => fun _ _ _ _ => none
  | n + 1 => F_Reader_readItem_9 N rc (L_Reader_readItem N rc n)
def g_Reader_readItem (N : Nat) (rc : (Int32 → MH → Option (Int64 × MH))) (a1 : Int32) (h : MH) : Option (Int64 × MH) := F_Reader_readItem_0 N rc (L_Reader_readItem N rc N) a1 h
def C_Reader_readItem (N : Nat) (rc : (Int32 → MH → Option (Int64 × MH))) : MC := (KDL, false, (fun _ => 0), jsB, (fun j => match Nat.beq j 62 with
    | true => w_Reader_isSign (f_Reader_isSign N)
    | false => fun _ _ => none), (fun j => match Nat.beq j 78 with
    | true => w_Reader_readAtom (rc)
    | false => fun _ _ => none), (fun _ _ _ => none), (fun j => match Nat.beq j 57 with
    | true => w_Reader_advance (f_Reader_advance N)
    | false => fun _ _ => none))
def D_Reader_readItem (N : Nat) (rc : (Int32 → MH → Option (Int64 × MH))) (n pc : Nat) (lv : ML) (st : List MV) (h : MH) : Option (Int64 × MH) :=
  match Nat.beq pc 0 with
  | true => (match lk lv 0, lk lv 1, st with
    | some (.inr (.inr (0, 7, 3))), some (.inl a1), [] => F_Reader_readItem_0 N rc (L_Reader_readItem N rc n) a1 h
    | _, _, _ => none)
  | false => match Nat.beq pc 9 with
  | true => (match lk lv 0, lk lv 1, lk lv 2, lk lv 4, st with
    | some (.inr (.inr (0, 7, 3))), some (.inl a1), some (.inr (.inl a2)), some (.inl a4), [] => F_Reader_readItem_9 N rc (L_Reader_readItem N rc n) a1 a2 a4 h
    | _, _, _, _, _ => none)
  | false => none
def B_Reader_readItem (N : Nat) (rc : (Int32 → MH → Option (Int64 × MH))) (n pc : Nat) (lv : ML) (st : List MV) (h : MH) : Option (Int64 × MH) :=
  match Nat.beq pc 9 with
  | true => (match lk lv 0, lk lv 1, lk lv 2, lk lv 4, st with
    | some (.inr (.inr (0, 7, 3))), some (.inl a1), some (.inr (.inl a2)), some (.inl a4), [] => ((L_Reader_readItem N rc n)) a1 a2 a4 h
    | _, _, _, _, _ => none)
  | false => none
set_option maxRecDepth 1000000 in
theorem E_Reader_readItem_0 (N : Nat) (rc : (Int32 → MH → Option (Int64 × MH))) (n : Nat) (a1 : Int32) (h : MH) : seg (C_Reader_readItem N rc) 5 0 rJ T_Reader_readItem [0, 9] (fun q lv st h => match Nat.ble 1 q with
    | true => D_Reader_readItem N rc n q lv st h
    | false => B_Reader_readItem N rc n q lv st h) 400 true 0 [(0, .inr (.inr (0, 7, 3))), (1, .inl a1)] [] h = F_Reader_readItem_0 N rc (L_Reader_readItem N rc n) a1 h := (rfl)
set_option maxRecDepth 1000000 in
theorem E_Reader_readItem_9 (N : Nat) (rc : (Int32 → MH → Option (Int64 × MH))) (n : Nat) (a1 : Int32) (a2 : Int64) (a4 : Int32) (h : MH) : seg (C_Reader_readItem N rc) 5 0 rJ T_Reader_readItem [0, 9] (fun q lv st h => match Nat.ble 10 q with
    | true => D_Reader_readItem N rc n q lv st h
    | false => B_Reader_readItem N rc n q lv st h) 400 true 9 [(0, .inr (.inr (0, 7, 3))), (1, .inl a1), (2, .inr (.inl a2)), (4, .inl a4)] [] h = F_Reader_readItem_9 N rc (L_Reader_readItem N rc n) a1 a2 a4 h := (rfl)
set_option maxRecDepth 1000000 in
theorem chk_Reader_readItem : chkT 7 false prog_9_method_27_code T_Reader_readItem = true := by decide +kernel
theorem mc_Reader_readItem : mC 77 = prog_9_method_27_code := by rfl
theorem mx_Reader_readItem : mL 77 = 5 ∧ mR 77 = some .long ∧ mK 77 = 1 ∧ (mN 77).cls = cN 7 := by decide +kernel
theorem hD_Reader_readItem (N : Nat) (rc : (Int32 → MH → Option (Int64 × MH))) {r : Int64 × MH} : ∀ n pc lv st h, D_Reader_readItem N rc n pc lv st h = some r → ∃ lv', (∀ q ∈ lv', q ∈ lv) ∧ seg (C_Reader_readItem N rc) 5 0 rJ T_Reader_readItem [0, 9] (fun q lv st h => match Nat.ble (pc + 1) q with
    | true => D_Reader_readItem N rc n q lv st h
    | false => B_Reader_readItem N rc n q lv st h) 400 true pc lv' st h = some r := by
  intro n pc lv st h hf
  unfold D_Reader_readItem at hf
  split at hf
  · rename_i hb
    have hb := Nat.eq_of_beq_eq_true hb
    subst hb
    split at hf
    · rename_i y0 e0 e1
      exact ⟨_, (sub_cons e0 (sub_cons e1 sub_nil)), (E_Reader_readItem_0 N rc n _ h).trans hf⟩
    · cases hf
  · skip
    split at hf
    · rename_i hb
      have hb := Nat.eq_of_beq_eq_true hb
      subst hb
      split at hf
      · rename_i y0 y1 y2 e0 e1 e2 e3
        exact ⟨_, (sub_cons e0 (sub_cons e1 (sub_cons e2 (sub_cons e3 sub_nil)))), (E_Reader_readItem_9 N rc n _ _ _ h).trans hf⟩
      · cases hf
    · skip
      cases hf
theorem hM_Reader_readItem (N : Nat) (rc : (Int32 → MH → Option (Int64 × MH))) {r : Int64 × MH} : ∀ n pc lv st h, D_Reader_readItem N rc n pc lv st h = some r → pc < 53 := by
  intro n pc lv st h hf
  unfold D_Reader_readItem at hf
  split at hf
  · rename_i hb
    rw [Nat.eq_of_beq_eq_true hb]
    decide
  · skip
    split at hf
    · rename_i hb
      rw [Nat.eq_of_beq_eq_true hb]
      decide
    · skip
      cases hf
theorem hB_Reader_readItem (N : Nat) (rc : (Int32 → MH → Option (Int64 × MH))) {r : Int64 × MH} : ∀ n pc lv st h, B_Reader_readItem N rc n pc lv st h = some r → ∃ k, n = k + 1 ∧ D_Reader_readItem N rc k pc lv st h = some r := by
  intro n pc lv st h hf
  unfold B_Reader_readItem at hf
  split at hf
  · rename_i hb
    have hb := Nat.eq_of_beq_eq_true hb
    subst hb
    cases n with
    | zero =>
      split at hf
      · cases hf
      · cases hf
    | succ k =>
      refine ⟨k, rfl, ?_⟩
      exact hf
  · skip
    cases hf
theorem sg_Reader_readItem {l : Launch} {E : EV} {N : Nat} {rc : (Int32 → MH → Option (Int64 × MH))} {dp d0 : Nat} (hc : 3 ≤ dp) (h0 : d0 + 1 ≤ dp) (q0 : ∀ as h r, w_Reader_readAtom (rc) as h = some r → SndM l E false d0 78 as h (some (.inr (.inl r.1))) r.2) {as : List MV} {h : MH} {r : Int64 × MH} (hf : w_Reader_readItem (g_Reader_readItem N rc) as h = some r) : SndM l E false dp 77 as h (some (.inr (.inl r.1))) r.2 := by
  unfold w_Reader_readItem at hf
  split at hf
  · obtain ⟨m1, m2, m3, m4⟩ := mx_Reader_readItem
    refine snd_of (C := C_Reader_readItem N rc) (own := 7) (rz := 0) (lim := 115) rJ_eq m2 m4 pl_77 (TB_in _ cw_77 rfl) ⟨(fun _ => ⟨_, _, _, _, _, _, rfl, rfl, by rw [m4]; rfl⟩), (fun z => by rw [m3] at z; cases z)⟩ (fun z => by cases z) KDL_take rfl rfl (fun z => by cases z) (fun z => by cases z) (fun _ => rfl) (by rw [m1]; exact Nat.le_of_ble_eq_true rfl)
      (fun j as h x z => by
      dsimp only [C_Reader_readItem] at z
      cases hb : Nat.beq j 62 with
      | true =>
        have hb := Nat.eq_of_beq_eq_true hb
        subst hb
        exact ⟨0, by omega, (fun z => by cases z), s_Reader_isSign z⟩
      | false =>
        rw [hb] at z
        dsimp only at z
        cases z)
      (fun j as h x z => by
      dsimp only [C_Reader_readItem] at z
      cases hb : Nat.beq j 78 with
      | true =>
        have hb := Nat.eq_of_beq_eq_true hb
        subst hb
        exact ⟨_, h0, (fun z => by cases z), q0 _ _ _ z⟩
      | false =>
        rw [hb] at z
        dsimp only at z
        cases z)
      (fun _ _ _ _ z => by cases z)
      (fun j as h x z => by
      dsimp only [C_Reader_readItem] at z
      cases hb : Nat.beq j 57 with
      | true =>
        have hb := Nat.eq_of_beq_eq_true hb
        subst hb
        exact ⟨2, by omega, (fun z => by cases z), s_Reader_advance z⟩
      | false =>
        rw [hb] at z
        dsimp only at z
        cases z)
      (fun p e R s m args below meth c Q n0 F hret => ?_)
    rw [m1] at F hret ⊢
    rw [mc_Reader_readItem] at F hret
    exact cuts_s (K := 400) (M := 53) (D := D_Reader_readItem N rc) (B := B_Reader_readItem N rc) F hret (chkT_ok chk_Reader_readItem) (hM_Reader_readItem N rc) (hB_Reader_readItem N rc) (hD_Reader_readItem N rc) N 0 _ _ _ hf
  · cases hf
def T_Reader_readSum : List (List (Option RW)) := [
  [some (.aload_n 0, 1, [0], 0, 0), some (.iload_n 1, 1, [1], 0, 0), some (.invokevirtual 208, 3, [0, 77, 2, 1], 0, 0), none, none, some (.lstore_n 2, 1, [2], 0, 0), some (.iconst 0, 1, [], 0, 0), some (.istore 4, 2, [4], 0, 0), none, some (.iload 4, 2, [4], 0, 0), none, some (.sipush 600, 3, [], 600, 0), none, none, some (.if_icmp .ge 70, 3, [84], 0, 0), none, none, some (.aload_n 0, 1, [0], 0, 0), some (.getfield 34, 3, [7, 7, 0], 0, 0), none, none, some (.ifCond .ne 63, 3, [84], 0, 0), none, none, some (.aload_n 0, 1, [0], 0, 0), some (.bipush 43, 2, [], 43, 0), none, some (.invokevirtual 125, 3, [0, 62, 2, 0], 0, 0), none, none, some (.ifCond .ne 12, 3, [42], 0, 0), none],
  [none, some (.aload_n 0, 1, [0], 0, 0), some (.bipush 45, 2, [], 45, 0), none, some (.invokevirtual 125, 3, [0, 62, 2, 0], 0, 0), none, none, some (.ifCond .eq 45, 3, [84], 0, 0), none, none, some (.aload_n 0, 1, [0], 0, 0), some (.bipush 45, 2, [], 45, 0), none, some (.invokevirtual 125, 3, [0, 62, 2, 0], 0, 0), none, none, some (.istore 5, 2, [5], 0, 0), none, some (.aload_n 0, 1, [0], 0, 0), some (.invokevirtual 65, 3, [0, 57, 1, 3], 0, 0), none, none, some (.aload_n 0, 1, [0], 0, 0), some (.iload_n 1, 1, [1], 0, 0), some (.invokevirtual 208, 3, [0, 77, 2, 1], 0, 0), none, none, some (.lstore 6, 2, [6], 0, 0), none, some (.iload 5, 2, [5], 0, 0), none, some (.ifCond .eq 10, 3, [73], 0, 0)],
  [none, none, some (.lload_n 2, 1, [2], 0, 0), some (.lload 6, 2, [6], 0, 0), none, some (.lsub, 1, [], 0, 0), some (.goto 7, 3, [77], 0, 0), none, none, some (.lload_n 2, 1, [2], 0, 0), some (.lload 6, 2, [6], 0, 0), none, some (.ladd, 1, [], 0, 0), some (.lstore_n 2, 1, [2], 0, 0), some (.iinc 4 1, 3, [4], 1, 0), none, none, some (.goto (-72), 3, [9], 0, 0), none, none, some (.lload_n 2, 1, [2], 0, 0), some (.lreturn, 1, [], 0, 0)]]
def F_Reader_readSum_42 (N : Nat) (rc : (Int32 → MH → Option (Int64 × MH))) (bk : (Int32 → Int64 → Int32 → MH → Option (Int64 × MH))) (a1 : Int32) (a2 : Int64) (a4 : Int32) (h : MH) : Option (Int64 × MH) :=
  (f_Reader_isSign N 45 h).bind (fun x4 =>
  (f_Reader_advance N x4.2).bind (fun x5 =>
  (rc a1 x5).bind (fun x6 =>
  if x4.1 = 0 then
  (let v7 : Int64 := a2 + x6.1
  let v8 : Int32 := a4 + 1
  bk a1 v7 v8 x6.2)
  else
  (let v9 : Int64 := a2 - x6.1
  let v10 : Int32 := a4 + 1
  bk a1 v9 v10 x6.2))))
def F_Reader_readSum_9 (N : Nat) (rc : (Int32 → MH → Option (Int64 × MH))) (bk : (Int32 → Int64 → Int32 → MH → Option (Int64 × MH))) (a1 : Int32) (a2 : Int64) (a4 : Int32) (h : MH) : Option (Int64 × MH) :=
  if 600 ≤ a4 then
  (some (a2, h))
  else
  (if (gI h 3 7) = 0 then
  ((f_Reader_isSign N 43 h).bind (fun x2 =>
  if x2.1 = 0 then
  ((f_Reader_isSign N 45 x2.2).bind (fun x3 =>
  if x3.1 = 0 then
  (some (a2, x3.2))
  else
  (F_Reader_readSum_42 N rc bk a1 a2 a4 x3.2)))
  else
  (F_Reader_readSum_42 N rc bk a1 a2 a4 x2.2)))
  else
  (some (a2, h)))
def F_Reader_readSum_0 (N : Nat) (rc : (Int32 → MH → Option (Int64 × MH))) (bk : (Int32 → Int64 → Int32 → MH → Option (Int64 × MH))) (a1 : Int32) (h : MH) : Option (Int64 × MH) :=
  (rc a1 h).bind (fun x1 =>
  F_Reader_readSum_9 N rc bk a1 x1.1 0 x1.2)
def L_Reader_readSum (N : Nat) (rc : (Int32 → MH → Option (Int64 × MH))) : Nat → (Int32 → Int64 → Int32 → MH → Option (Int64 × MH))
  | 0 => fun _ _ _ _ => none
  | n + 1 => F_Reader_readSum_9 N rc (L_Reader_readSum N rc n)
def g_Reader_readSum (N : Nat) (rc : (Int32 → MH → Option (Int64 × MH))) (a1 : Int32) (h : MH) : Option (Int64 × MH) := F_Reader_readSum_0 N rc (L_Reader_readSum N rc N) a1 h
def f_Reader_readAtom (N : Nat) : Nat → Int32 → MH → Option (Int64 × MH)
  | 0 => fun _ _ => none
  | d + 1 => g_Reader_readAtom N (f_Reader_readAtom N d, g_Reader_readSum N (g_Reader_readItem N (f_Reader_readAtom N d)))
def f_Reader_readItem (N d : Nat) := g_Reader_readItem N (f_Reader_readAtom N d)
def f_Reader_readSum (N d : Nat) := g_Reader_readSum N (f_Reader_readItem N d)
def C_Reader_readSum (N : Nat) (rc : (Int32 → MH → Option (Int64 × MH))) : MC := (KDL, false, (fun _ => 0), jsB, (fun j => match Nat.beq j 62 with
    | true => w_Reader_isSign (f_Reader_isSign N)
    | false => fun _ _ => none), (fun j => match Nat.beq j 77 with
    | true => w_Reader_readItem (rc)
    | false => fun _ _ => none), (fun _ _ _ => none), (fun j => match Nat.beq j 57 with
    | true => w_Reader_advance (f_Reader_advance N)
    | false => fun _ _ => none))
def D_Reader_readSum (N : Nat) (rc : (Int32 → MH → Option (Int64 × MH))) (n pc : Nat) (lv : ML) (st : List MV) (h : MH) : Option (Int64 × MH) :=
  match Nat.beq pc 0 with
  | true => (match lk lv 0, lk lv 1, st with
    | some (.inr (.inr (0, 7, 3))), some (.inl a1), [] => F_Reader_readSum_0 N rc (L_Reader_readSum N rc n) a1 h
    | _, _, _ => none)
  | false => match Nat.beq pc 9 with
  | true => (match lk lv 0, lk lv 1, lk lv 2, lk lv 4, st with
    | some (.inr (.inr (0, 7, 3))), some (.inl a1), some (.inr (.inl a2)), some (.inl a4), [] => F_Reader_readSum_9 N rc (L_Reader_readSum N rc n) a1 a2 a4 h
    | _, _, _, _, _ => none)
  | false => match Nat.beq pc 42 with
  | true => (match lk lv 0, lk lv 1, lk lv 2, lk lv 4, st with
    | some (.inr (.inr (0, 7, 3))), some (.inl a1), some (.inr (.inl a2)), some (.inl a4), [] => F_Reader_readSum_42 N rc (L_Reader_readSum N rc n) a1 a2 a4 h
    | _, _, _, _, _ => none)
  | false => none
def B_Reader_readSum (N : Nat) (rc : (Int32 → MH → Option (Int64 × MH))) (n pc : Nat) (lv : ML) (st : List MV) (h : MH) : Option (Int64 × MH) :=
  match Nat.beq pc 9 with
  | true => (match lk lv 0, lk lv 1, lk lv 2, lk lv 4, st with
    | some (.inr (.inr (0, 7, 3))), some (.inl a1), some (.inr (.inl a2)), some (.inl a4), [] => ((L_Reader_readSum N rc n)) a1 a2 a4 h
    | _, _, _, _, _ => none)
  | false => none
set_option maxRecDepth 1000000 in
theorem E_Reader_readSum_0 (N : Nat) (rc : (Int32 → MH → Option (Int64 × MH))) (n : Nat) (a1 : Int32) (h : MH) : seg (C_Reader_readSum N rc) 8 0 rJ T_Reader_readSum [0, 9, 42] (fun q lv st h => match Nat.ble 1 q with
    | true => D_Reader_readSum N rc n q lv st h
    | false => B_Reader_readSum N rc n q lv st h) 400 true 0 [(0, .inr (.inr (0, 7, 3))), (1, .inl a1)] [] h = F_Reader_readSum_0 N rc (L_Reader_readSum N rc n) a1 h := (rfl)
set_option maxRecDepth 1000000 in
theorem E_Reader_readSum_9 (N : Nat) (rc : (Int32 → MH → Option (Int64 × MH))) (n : Nat) (a1 : Int32) (a2 : Int64) (a4 : Int32) (h : MH) : seg (C_Reader_readSum N rc) 8 0 rJ T_Reader_readSum [0, 9, 42] (fun q lv st h => match Nat.ble 10 q with
    | true => D_Reader_readSum N rc n q lv st h
    | false => B_Reader_readSum N rc n q lv st h) 400 true 9 [(0, .inr (.inr (0, 7, 3))), (1, .inl a1), (2, .inr (.inl a2)), (4, .inl a4)] [] h = F_Reader_readSum_9 N rc (L_Reader_readSum N rc n) a1 a2 a4 h := (rfl)
set_option maxRecDepth 1000000 in
theorem E_Reader_readSum_42 (N : Nat) (rc : (Int32 → MH → Option (Int64 × MH))) (n : Nat) (a1 : Int32) (a2 : Int64) (a4 : Int32) (h : MH) : seg (C_Reader_readSum N rc) 8 0 rJ T_Reader_readSum [0, 9, 42] (fun q lv st h => match Nat.ble 43 q with
    | true => D_Reader_readSum N rc n q lv st h
    | false => B_Reader_readSum N rc n q lv st h) 400 true 42 [(0, .inr (.inr (0, 7, 3))), (1, .inl a1), (2, .inr (.inl a2)), (4, .inl a4)] [] h = F_Reader_readSum_42 N rc (L_Reader_readSum N rc n) a1 a2 a4 h := (rfl)
set_option maxRecDepth 1000000 in
theorem chk_Reader_readSum : chkT 7 false prog_9_method_26_code T_Reader_readSum = true := by decide +kernel
theorem mc_Reader_readSum : mC 76 = prog_9_method_26_code := by rfl
theorem mx_Reader_readSum : mL 76 = 8 ∧ mR 76 = some .long ∧ mK 76 = 1 ∧ (mN 76).cls = cN 7 := by decide +kernel
theorem hD_Reader_readSum (N : Nat) (rc : (Int32 → MH → Option (Int64 × MH))) {r : Int64 × MH} : ∀ n pc lv st h, D_Reader_readSum N rc n pc lv st h = some r → ∃ lv', (∀ q ∈ lv', q ∈ lv) ∧ seg (C_Reader_readSum N rc) 8 0 rJ T_Reader_readSum [0, 9, 42] (fun q lv st h => match Nat.ble (pc + 1) q with
    | true => D_Reader_readSum N rc n q lv st h
    | false => B_Reader_readSum N rc n q lv st h) 400 true pc lv' st h = some r := by
  intro n pc lv st h hf
  unfold D_Reader_readSum at hf
  split at hf
  · rename_i hb
    have hb := Nat.eq_of_beq_eq_true hb
    subst hb
    split at hf
    · rename_i y0 e0 e1
      exact ⟨_, (sub_cons e0 (sub_cons e1 sub_nil)), (E_Reader_readSum_0 N rc n _ h).trans hf⟩
    · cases hf
  · skip
    split at hf
    · rename_i hb
      have hb := Nat.eq_of_beq_eq_true hb
      subst hb
      split at hf
      · rename_i y0 y1 y2 e0 e1 e2 e3
        exact ⟨_, (sub_cons e0 (sub_cons e1 (sub_cons e2 (sub_cons e3 sub_nil)))), (E_Reader_readSum_9 N rc n _ _ _ h).trans hf⟩
      · cases hf
    · skip
      split at hf
      · rename_i hb
        have hb := Nat.eq_of_beq_eq_true hb
        subst hb
        split at hf
        · rename_i y0 y1 y2 e0 e1 e2 e3
          exact ⟨_, (sub_cons e0 (sub_cons e1 (sub_cons e2 (sub_cons e3 sub_nil)))), (E_Reader_readSum_42 N rc n _ _ _ h).trans hf⟩
        · cases hf
      · skip
        cases hf
theorem hM_Reader_readSum (N : Nat) (rc : (Int32 → MH → Option (Int64 × MH))) {r : Int64 × MH} : ∀ n pc lv st h, D_Reader_readSum N rc n pc lv st h = some r → pc < 86 := by
  intro n pc lv st h hf
  unfold D_Reader_readSum at hf
  split at hf
  · rename_i hb
    rw [Nat.eq_of_beq_eq_true hb]
    decide
  · skip
    split at hf
    · rename_i hb
      rw [Nat.eq_of_beq_eq_true hb]
      decide
    · skip
      split at hf
      · rename_i hb
        rw [Nat.eq_of_beq_eq_true hb]
        decide
      · skip
        cases hf
theorem hB_Reader_readSum (N : Nat) (rc : (Int32 → MH → Option (Int64 × MH))) {r : Int64 × MH} : ∀ n pc lv st h, B_Reader_readSum N rc n pc lv st h = some r → ∃ k, n = k + 1 ∧ D_Reader_readSum N rc k pc lv st h = some r := by
  intro n pc lv st h hf
  unfold B_Reader_readSum at hf
  split at hf
  · rename_i hb
    have hb := Nat.eq_of_beq_eq_true hb
    subst hb
    cases n with
    | zero =>
      split at hf
      · cases hf
      · cases hf
    | succ k =>
      refine ⟨k, rfl, ?_⟩
      exact hf
  · skip
    cases hf
theorem sg_Reader_readSum {l : Launch} {E : EV} {N : Nat} {rc : (Int32 → MH → Option (Int64 × MH))} {dp d0 : Nat} (hc : 3 ≤ dp) (h0 : d0 + 1 ≤ dp) (q0 : ∀ as h r, w_Reader_readItem (rc) as h = some r → SndM l E false d0 77 as h (some (.inr (.inl r.1))) r.2) {as : List MV} {h : MH} {r : Int64 × MH} (hf : w_Reader_readSum (g_Reader_readSum N rc) as h = some r) : SndM l E false dp 76 as h (some (.inr (.inl r.1))) r.2 := by
  unfold w_Reader_readSum at hf
  split at hf
  · obtain ⟨m1, m2, m3, m4⟩ := mx_Reader_readSum
    refine snd_of (C := C_Reader_readSum N rc) (own := 7) (rz := 0) (lim := 115) rJ_eq m2 m4 pl_76 (TB_in _ cw_76 rfl) ⟨(fun _ => ⟨_, _, _, _, _, _, rfl, rfl, by rw [m4]; rfl⟩), (fun z => by rw [m3] at z; cases z)⟩ (fun z => by cases z) KDL_take rfl rfl (fun z => by cases z) (fun z => by cases z) (fun _ => rfl) (by rw [m1]; exact Nat.le_of_ble_eq_true rfl)
      (fun j as h x z => by
      dsimp only [C_Reader_readSum] at z
      cases hb : Nat.beq j 62 with
      | true =>
        have hb := Nat.eq_of_beq_eq_true hb
        subst hb
        exact ⟨0, by omega, (fun z => by cases z), s_Reader_isSign z⟩
      | false =>
        rw [hb] at z
        dsimp only at z
        cases z)
      (fun j as h x z => by
      dsimp only [C_Reader_readSum] at z
      cases hb : Nat.beq j 77 with
      | true =>
        have hb := Nat.eq_of_beq_eq_true hb
        subst hb
        exact ⟨_, h0, (fun z => by cases z), q0 _ _ _ z⟩
      | false =>
        rw [hb] at z
        dsimp only at z
        cases z)
      (fun _ _ _ _ z => by cases z)
      (fun j as h x z => by
      dsimp only [C_Reader_readSum] at z
      cases hb : Nat.beq j 57 with
      | true =>
        have hb := Nat.eq_of_beq_eq_true hb
        subst hb
        exact ⟨2, by omega, (fun z => by cases z), s_Reader_advance z⟩
      | false =>
        rw [hb] at z
        dsimp only at z
        cases z)
      (fun p e R s m args below meth c Q n0 F hret => ?_)
    rw [m1] at F hret ⊢
    rw [mc_Reader_readSum] at F hret
    exact cuts_s (K := 400) (M := 86) (D := D_Reader_readSum N rc) (B := B_Reader_readSum N rc) F hret (chkT_ok chk_Reader_readSum) (hM_Reader_readSum N rc) (hB_Reader_readSum N rc) (hD_Reader_readSum N rc) N 0 _ _ _ hf
  · cases hf
theorem s_Reader_readAtom {l : Launch} {E : EV} {N : Nat} : ∀ (d : Nat) {as : List MV} {h : MH} {r : Int64 × MH}, w_Reader_readAtom (f_Reader_readAtom N d) as h = some r → SndM l E false (3 + 3 * d) 78 as h (some (.inr (.inl r.1))) r.2
  | 0, as, h, r, hf => by
    unfold w_Reader_readAtom at hf
    split at hf
    · cases hf
    · cases hf
  | d + 1, as, h, r, hf => sg_Reader_readAtom (rc := (f_Reader_readAtom N d, g_Reader_readSum N (g_Reader_readItem N (f_Reader_readAtom N d)))) (dp := 3 + 3 * (d + 1)) (d0 := 3 + 3 * d) (d1 := 3 + 3 * d + 2) (by omega) (by omega) (fun as h r z => s_Reader_readAtom d z) (by omega) (fun as h r z => sg_Reader_readSum (d0 := 3 + 3 * d + 1) (by omega) (by omega) (fun as h r z => sg_Reader_readItem (d0 := 3 + 3 * d) (by omega) (by omega) (fun as h r z => s_Reader_readAtom d z) z) z) hf
theorem s_Reader_readItem {l : Launch} {E : EV} {N : Nat} (d : Nat) {as : List MV} {h : MH} {r : Int64 × MH} (hf : w_Reader_readItem (f_Reader_readItem N d) as h = some r) : SndM l E false (3 + 3 * d + 1) 77 as h (some (.inr (.inl r.1))) r.2 := sg_Reader_readItem (d0 := 3 + 3 * d) (by omega) (by omega) (fun as h r z => s_Reader_readAtom d z) hf
theorem s_Reader_readSum {l : Launch} {E : EV} {N : Nat} (d : Nat) {as : List MV} {h : MH} {r : Int64 × MH} (hf : w_Reader_readSum (f_Reader_readSum N d) as h = some r) : SndM l E false (3 + 3 * d + 2) 76 as h (some (.inr (.inl r.1))) r.2 := sg_Reader_readSum (d0 := 3 + 3 * d + 1) (by omega) (by omega) (fun as h r z => s_Reader_readItem d z) hf
