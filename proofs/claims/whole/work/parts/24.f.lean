def T_M_fit : List (List (Option RW)) := [
  [some (.aload_n 0, 1, [0], 0, 0), some (.lconst 0, 1, [], 0, 0), some (.putfield 387, 3, [12, 60, 1], 0, 0), none, none, some (.aload_n 0, 1, [0], 0, 0), some (.lconst 0, 1, [], 0, 0), some (.putfield 390, 3, [12, 61, 1], 0, 0), none, none, some (.aload_n 0, 1, [0], 0, 0), some (.lconst 0, 1, [], 0, 0), some (.putfield 393, 3, [12, 62, 1], 0, 0), none, none, some (.aload_n 0, 1, [0], 0, 0), some (.lconst 0, 1, [], 0, 0), some (.putfield 396, 3, [12, 63, 1], 0, 0), none, none, some (.aload_n 0, 1, [0], 0, 0), some (.lconst 0, 1, [], 0, 0), some (.putfield 399, 3, [12, 64, 1], 0, 0), none, none, some (.aload_n 0, 1, [0], 0, 0), some (.lconst 0, 1, [], 0, 0), some (.putfield 402, 3, [12, 65, 1], 0, 0), none, none, some (.iload_n 2, 1, [2], 0, 0), some (.istore 4, 2, [4], 0, 0)],
  [none, some (.iload 4, 2, [4], 0, 0), none, some (.iload_n 3, 1, [3], 0, 0), some (.if_icmp .gt 114, 3, [150], 0, 0), none, none, some (.aload_n 0, 1, [0], 0, 0), some (.iload_n 1, 1, [1], 0, 0), some (.iload 4, 2, [4], 0, 0), none, some (.invokevirtual 381, 3, [0, 215, 3, 0], 0, 0), none, none, some (.istore 5, 2, [5], 0, 0), none, some (.iload 5, 2, [5], 0, 0), none, some (.iconst (-1), 1, [], (-1), 0), some (.if_icmp .ne 6, 3, [57], 0, 0), none, none, some (.goto 90, 3, [144], 0, 0), none, none, some (.aload_n 0, 1, [0], 0, 0), some (.iload 5, 2, [5], 0, 0), none, some (.invokevirtual 384, 3, [0, 216, 2, 0], 0, 0), none, none, some (.i2l, 1, [], 0, 0)],
  [some (.lstore 6, 2, [6], 0, 0), none, some (.aload_n 0, 1, [0], 0, 0), some (.dup, 1, [], 0, 0), some (.getfield 387, 3, [12, 60, 1], 0, 0), none, none, some (.lconst 1, 1, [], 0, 1), some (.ladd, 1, [], 0, 0), some (.putfield 387, 3, [12, 60, 1], 0, 0), none, none, some (.aload_n 0, 1, [0], 0, 0), some (.dup, 1, [], 0, 0), some (.getfield 390, 3, [12, 61, 1], 0, 0), none, none, some (.iload 4, 2, [4], 0, 0), none, some (.i2l, 1, [], 0, 0), some (.ladd, 1, [], 0, 0), some (.putfield 390, 3, [12, 61, 1], 0, 0), none, none, some (.aload_n 0, 1, [0], 0, 0), some (.dup, 1, [], 0, 0), some (.getfield 393, 3, [12, 62, 1], 0, 0), none, none, some (.lload 6, 2, [6], 0, 0), none, some (.ladd, 1, [], 0, 0)],
  [some (.putfield 393, 3, [12, 62, 1], 0, 0), none, none, some (.aload_n 0, 1, [0], 0, 0), some (.dup, 1, [], 0, 0), some (.getfield 396, 3, [12, 63, 1], 0, 0), none, none, some (.iload 4, 2, [4], 0, 0), none, some (.i2l, 1, [], 0, 0), some (.iload 4, 2, [4], 0, 0), none, some (.i2l, 1, [], 0, 0), some (.lmul, 1, [], 0, 0), some (.ladd, 1, [], 0, 0), some (.putfield 396, 3, [12, 63, 1], 0, 0), none, none, some (.aload_n 0, 1, [0], 0, 0), some (.dup, 1, [], 0, 0), some (.getfield 399, 3, [12, 64, 1], 0, 0), none, none, some (.iload 4, 2, [4], 0, 0), none, some (.i2l, 1, [], 0, 0), some (.lload 6, 2, [6], 0, 0), none, some (.lmul, 1, [], 0, 0), some (.ladd, 1, [], 0, 0), some (.putfield 399, 3, [12, 64, 1], 0, 0)],
  [none, none, some (.aload_n 0, 1, [0], 0, 0), some (.dup, 1, [], 0, 0), some (.getfield 402, 3, [12, 65, 1], 0, 0), none, none, some (.lload 6, 2, [6], 0, 0), none, some (.lload 6, 2, [6], 0, 0), none, some (.lmul, 1, [], 0, 0), some (.ladd, 1, [], 0, 0), some (.putfield 402, 3, [12, 65, 1], 0, 0), none, none, some (.iinc 4 1, 3, [4], 1, 0), none, none, some (.goto (-114), 3, [33], 0, 0), none, none, some (.return_, 1, [], 0, 0)]]
def F_M_fit_33 (N : Nat) (bk : (Int32 → Int32 → Int32 → MH → Option (MH))) (a1 : Int32) (a3 : Int32) (a4 : Int32) (h : MH) : Option (MH) :=
  if a3 < a4 then
  (some h)
  else
  ((f_M_rowOf N a1 a4 h).bind (fun x7 =>
  if x7.1 = ((-1)) then
  (let v8 : Int32 := a4 + 1
  bk a1 a3 v8 x7.2)
  else
  ((f_M_valueOf N x7.1 x7.2).bind (fun x9 =>
  let h10 : MH := sJ x9.2 68 60 ((gJ x9.2 68 60) + 1)
  let h11 : MH := sJ h10 68 61 ((gJ h10 68 61) + a4.toInt64)
  let h12 : MH := sJ h11 68 62 ((gJ h11 68 62) + x9.1.toInt64)
  let h13 : MH := sJ h12 68 63 ((gJ h12 68 63) + (a4.toInt64 * a4.toInt64))
  let h14 : MH := sJ h13 68 64 ((gJ h13 68 64) + (a4.toInt64 * x9.1.toInt64))
  let h15 : MH := sJ h14 68 65 ((gJ h14 68 65) + (x9.1.toInt64 * x9.1.toInt64))
  let v16 : Int32 := a4 + 1
  bk a1 a3 v16 h15))))
def F_M_fit_0 (N : Nat) (bk : (Int32 → Int32 → Int32 → MH → Option (MH))) (a1 : Int32) (a2 : Int32) (a3 : Int32) (h : MH) : Option (MH) :=
  let h1 : MH := sJ h 68 60 0
  let h2 : MH := sJ h1 68 61 0
  let h3 : MH := sJ h2 68 62 0
  let h4 : MH := sJ h3 68 63 0
  let h5 : MH := sJ h4 68 64 0
  let h6 : MH := sJ h5 68 65 0
  F_M_fit_33 N bk a1 a3 a2 h6
def L_M_fit (N : Nat) : Nat → (Int32 → Int32 → Int32 → MH → Option (MH))
  | 0 => fun _ _ _ _ => none
  | n + 1 => F_M_fit_33 N (L_M_fit N n)
def f_M_fit (N : Nat) (a1 : Int32) (a2 : Int32) (a3 : Int32) (h : MH) : Option (MH) := F_M_fit_0 N (L_M_fit N N) a1 a2 a3 h
def C_M_fit (N : Nat) : MC := (KDL, false, (fun _ => 0), jsB, (fun j => match Nat.beq j 215 with
    | true => w_M_rowOf (f_M_rowOf N)
    | false => match Nat.beq j 216 with
    | true => w_M_valueOf (f_M_valueOf N)
    | false => fun _ _ => none), (fun _ _ _ => none), (fun _ _ _ => none), (fun _ _ _ => none))
def D_M_fit (N : Nat) (n pc : Nat) (lv : ML) (st : List MV) (h : MH) : Option (MH) :=
  match Nat.beq pc 0 with
  | true => (match lk lv 0, lk lv 1, lk lv 2, lk lv 3, st with
    | some (.inr (.inr (0, 12, 68))), some (.inl a1), some (.inl a2), some (.inl a3), [] => F_M_fit_0 N (L_M_fit N n) a1 a2 a3 h
    | _, _, _, _, _ => none)
  | false => match Nat.beq pc 33 with
  | true => (match lk lv 0, lk lv 1, lk lv 3, lk lv 4, st with
    | some (.inr (.inr (0, 12, 68))), some (.inl a1), some (.inl a3), some (.inl a4), [] => F_M_fit_33 N (L_M_fit N n) a1 a3 a4 h
    | _, _, _, _, _ => none)
  | false => none
def B_M_fit (N : Nat) (n pc : Nat) (lv : ML) (st : List MV) (h : MH) : Option (MH) :=
  match Nat.beq pc 33 with
  | true => (match lk lv 0, lk lv 1, lk lv 3, lk lv 4, st with
    | some (.inr (.inr (0, 12, 68))), some (.inl a1), some (.inl a3), some (.inl a4), [] => ((L_M_fit N n)) a1 a3 a4 h
    | _, _, _, _, _ => none)
  | false => none
set_option maxRecDepth 1000000 in
theorem E_M_fit_0 (N : Nat) (n : Nat) (a1 : Int32) (a2 : Int32) (a3 : Int32) (h : MH) : seg (C_M_fit N) 8 0 rV T_M_fit [0, 33] (fun q lv st h => match Nat.ble 1 q with
    | true => D_M_fit N n q lv st h
    | false => B_M_fit N n q lv st h) 400 true 0 [(0, .inr (.inr (0, 12, 68))), (1, .inl a1), (2, .inl a2), (3, .inl a3)] [] h = F_M_fit_0 N (L_M_fit N n) a1 a2 a3 h := (rfl)
set_option maxRecDepth 1000000 in
theorem E_M_fit_33 (N : Nat) (n : Nat) (a1 : Int32) (a3 : Int32) (a4 : Int32) (h : MH) : seg (C_M_fit N) 8 0 rV T_M_fit [0, 33] (fun q lv st h => match Nat.ble 34 q with
    | true => D_M_fit N n q lv st h
    | false => B_M_fit N n q lv st h) 400 true 33 [(0, .inr (.inr (0, 12, 68))), (1, .inl a1), (3, .inl a3), (4, .inl a4)] [] h = F_M_fit_33 N (L_M_fit N n) a1 a3 a4 h := (rfl)
set_option maxRecDepth 1000000 in
theorem chk_M_fit : chkT 12 false prog_14_method_56_code T_M_fit = true := by decide +kernel
theorem mc_M_fit : mC 218 = prog_14_method_56_code := by rfl
theorem mx_M_fit : mL 218 = 8 ∧ mR 218 = none ∧ mK 218 = 1 ∧ (mN 218).cls = cN 12 := by decide +kernel
theorem hD_M_fit (N : Nat) {r : MH} : ∀ n pc lv st h, D_M_fit N n pc lv st h = some r → ∃ lv', (∀ q ∈ lv', q ∈ lv) ∧ seg (C_M_fit N) 8 0 rV T_M_fit [0, 33] (fun q lv st h => match Nat.ble (pc + 1) q with
    | true => D_M_fit N n q lv st h
    | false => B_M_fit N n q lv st h) 400 true pc lv' st h = some r := by
  intro n pc lv st h hf
  unfold D_M_fit at hf
  split at hf
  · rename_i hb
    have hb := Nat.eq_of_beq_eq_true hb
    subst hb
    split at hf
    · rename_i y0 y1 y2 e0 e1 e2 e3
      exact ⟨_, (sub_cons e0 (sub_cons e1 (sub_cons e2 (sub_cons e3 sub_nil)))), (E_M_fit_0 N n _ _ _ h).trans hf⟩
    · cases hf
  · skip
    split at hf
    · rename_i hb
      have hb := Nat.eq_of_beq_eq_true hb
      subst hb
      split at hf
      · rename_i y0 y1 y2 e0 e1 e2 e3
        exact ⟨_, (sub_cons e0 (sub_cons e1 (sub_cons e2 (sub_cons e3 sub_nil)))), (E_M_fit_33 N n _ _ _ h).trans hf⟩
      · cases hf
    · skip
      cases hf
theorem hM_M_fit (N : Nat) {r : MH} : ∀ n pc lv st h, D_M_fit N n pc lv st h = some r → pc < 151 := by
  intro n pc lv st h hf
  unfold D_M_fit at hf
  split at hf
  · rename_i hb
    rw [Nat.eq_of_beq_eq_true hb]
    decide
  · skip
    split at hf
    · rename_i hb
      rw [Nat.eq_of_beq_eq_true hb]
      decide
    · skip
      cases hf
theorem hB_M_fit (N : Nat) {r : MH} : ∀ n pc lv st h, B_M_fit N n pc lv st h = some r → ∃ k, n = k + 1 ∧ D_M_fit N k pc lv st h = some r := by
  intro n pc lv st h hf
  unfold B_M_fit at hf
  split at hf
  · rename_i hb
    have hb := Nat.eq_of_beq_eq_true hb
    subst hb
    cases n with
    | zero =>
      split at hf
      · cases hf
      · cases hf
    | succ k =>
      refine ⟨k, rfl, ?_⟩
      exact hf
  · skip
    cases hf
theorem s_M_fit {l : Launch} {E : EV} {N : Nat} {as : List MV} {h : MH} {r : MH} (hf : w_M_fit (f_M_fit N) as h = some r) : SndM l E false 1 218 as h none r := by
  unfold w_M_fit at hf
  split at hf
  · obtain ⟨m1, m2, m3, m4⟩ := mx_M_fit
    refine snd_of (C := C_M_fit N) (own := 12) (rz := 0) (lim := 115) rV_eq m2 m4 pl_218 (TB_in _ cw_218 rfl) ⟨(fun _ => ⟨_, _, _, _, _, _, rfl, rfl, by rw [m4]; rfl⟩), (fun z => by rw [m3] at z; cases z)⟩ (fun z => by cases z) KDL_take rfl rfl (fun z => by cases z) (fun z => by cases z) (fun _ => rfl) (by rw [m1]; exact Nat.le_of_ble_eq_true rfl)
      (fun j as h x z => by
      dsimp only [C_M_fit] at z
      cases hb : Nat.beq j 215 with
      | true =>
        have hb := Nat.eq_of_beq_eq_true hb
        subst hb
        exact ⟨0, by decide, (fun z => by cases z), s_M_rowOf z⟩
      | false =>
        rw [hb] at z
        dsimp only at z
        cases hb : Nat.beq j 216 with
        | true =>
          have hb := Nat.eq_of_beq_eq_true hb
          subst hb
          exact ⟨0, by decide, (fun z => by cases z), s_M_valueOf z⟩
        | false =>
          rw [hb] at z
          dsimp only at z
          cases z)
      (fun _ _ _ _ z => by cases z)
      (fun _ _ _ _ z => by cases z)
      (fun _ _ _ _ z => by cases z)
      (fun p e R s m args below meth c Q n0 F hret => ?_)
    rw [m1] at F hret ⊢
    rw [mc_M_fit] at F hret
    exact cuts_s (K := 400) (M := 151) (D := D_M_fit N) (B := B_M_fit N) F hret (chkT_ok chk_M_fit) (hM_M_fit N) (hB_M_fit N) (hD_M_fit N) N 0 _ _ _ hf
  · cases hf
def T_M_steep : List (List (Option RW)) := [
  [some (.aload_n 0, 1, [0], 0, 0), some (.getfield 387, 3, [12, 60, 1], 0, 0), none, none, some (.aload_n 0, 1, [0], 0, 0), some (.getfield 399, 3, [12, 64, 1], 0, 0), none, none, some (.lmul, 1, [], 0, 0), some (.aload_n 0, 1, [0], 0, 0), some (.getfield 390, 3, [12, 61, 1], 0, 0), none, none, some (.aload_n 0, 1, [0], 0, 0), some (.getfield 393, 3, [12, 62, 1], 0, 0), none, none, some (.lmul, 1, [], 0, 0), some (.lsub, 1, [], 0, 0), some (.lreturn, 1, [], 0, 0)]]
def f_M_steep (N : Nat) (h : MH) : Option (Int64 × MH) :=
  some (((gJ h 68 60) * (gJ h 68 64)) - ((gJ h 68 61) * (gJ h 68 62)), h)
def C_M_steep (N : Nat) : MC := (KDL, false, (fun _ => 0), jsB, (fun _ _ _ => none), (fun _ _ _ => none), (fun _ _ _ => none), (fun _ _ _ => none))
def D_M_steep (N : Nat) (n pc : Nat) (lv : ML) (st : List MV) (h : MH) : Option (Int64 × MH) :=
  match Nat.beq pc 0 with
  | true => (match lk lv 0, st with
    | some (.inr (.inr (0, 12, 68))), [] => f_M_steep N h
    | _, _ => none)
  | false => none
set_option maxRecDepth 1000000 in
theorem E_M_steep_0 (N : Nat) (n : Nat) (h : MH) : seg (C_M_steep N) 1 0 rJ T_M_steep [0] (fun q lv st h => match Nat.ble 1 q with
    | true => D_M_steep N n q lv st h
    | false => none) 400 true 0 [(0, .inr (.inr (0, 12, 68)))] [] h = f_M_steep N h := (rfl)
set_option maxRecDepth 1000000 in
theorem chk_M_steep : chkT 12 false prog_14_method_57_code T_M_steep = true := by decide +kernel
theorem mc_M_steep : mC 219 = prog_14_method_57_code := by rfl
theorem mx_M_steep : mL 219 = 1 ∧ mR 219 = some .long ∧ mK 219 = 1 ∧ (mN 219).cls = cN 12 := by decide +kernel
theorem hD_M_steep (N : Nat) {r : Int64 × MH} : ∀ n pc lv st h, D_M_steep N n pc lv st h = some r → ∃ lv', (∀ q ∈ lv', q ∈ lv) ∧ seg (C_M_steep N) 1 0 rJ T_M_steep [0] (fun q lv st h => match Nat.ble (pc + 1) q with
    | true => D_M_steep N n q lv st h
    | false => none) 400 true pc lv' st h = some r := by
  intro n pc lv st h hf
  unfold D_M_steep at hf
  split at hf
  · rename_i hb
    have hb := Nat.eq_of_beq_eq_true hb
    subst hb
    split at hf
    · rename_i e0
      exact ⟨_, (sub_cons e0 sub_nil), (E_M_steep_0 N n h).trans hf⟩
    · cases hf
  · skip
    cases hf
theorem hM_M_steep (N : Nat) {r : Int64 × MH} : ∀ n pc lv st h, D_M_steep N n pc lv st h = some r → pc < 20 := by
  intro n pc lv st h hf
  unfold D_M_steep at hf
  split at hf
  · rename_i hb
    rw [Nat.eq_of_beq_eq_true hb]
    decide
  · skip
    cases hf
theorem s_M_steep {l : Launch} {E : EV} {N : Nat} {as : List MV} {h : MH} {r : Int64 × MH} (hf : w_M_steep (f_M_steep N) as h = some r) : SndM l E false 0 219 as h (some (.inr (.inl r.1))) r.2 := by
  unfold w_M_steep at hf
  split at hf
  · obtain ⟨m1, m2, m3, m4⟩ := mx_M_steep
    refine snd_of (C := C_M_steep N) (own := 12) (rz := 0) (lim := 115) rJ_eq m2 m4 pl_219 (TB_in _ cw_219 rfl) ⟨(fun _ => ⟨_, _, _, _, _, _, rfl, rfl, by rw [m4]; rfl⟩), (fun z => by rw [m3] at z; cases z)⟩ (fun z => by cases z) KDL_take rfl rfl (fun z => by cases z) (fun z => by cases z) (fun _ => rfl) (by rw [m1]; exact Nat.le_of_ble_eq_true rfl)
      (fun _ _ _ _ z => by cases z)
      (fun _ _ _ _ z => by cases z)
      (fun _ _ _ _ z => by cases z)
      (fun _ _ _ _ z => by cases z)
      (fun p e R s m args below meth c Q n0 F hret => ?_)
    rw [m1] at F hret ⊢
    rw [mc_M_steep] at F hret
    exact cuts_s (K := 400) (M := 20) (D := D_M_steep N) (B := fun _ _ _ _ _ => none) F hret (chkT_ok chk_M_steep) (hM_M_steep N) (fun _ _ _ _ _ z => by cases z) (hD_M_steep N) N 0 _ _ _ hf
  · cases hf
def T_M_wide : List (List (Option RW)) := [
  [some (.aload_n 0, 1, [0], 0, 0), some (.getfield 387, 3, [12, 60, 1], 0, 0), none, none, some (.aload_n 0, 1, [0], 0, 0), some (.getfield 396, 3, [12, 63, 1], 0, 0), none, none, some (.lmul, 1, [], 0, 0), some (.aload_n 0, 1, [0], 0, 0), some (.getfield 390, 3, [12, 61, 1], 0, 0), none, none, some (.aload_n 0, 1, [0], 0, 0), some (.getfield 390, 3, [12, 61, 1], 0, 0), none, none, some (.lmul, 1, [], 0, 0), some (.lsub, 1, [], 0, 0), some (.lreturn, 1, [], 0, 0)]]
def f_M_wide (N : Nat) (h : MH) : Option (Int64 × MH) :=
  some (((gJ h 68 60) * (gJ h 68 63)) - ((gJ h 68 61) * (gJ h 68 61)), h)
def C_M_wide (N : Nat) : MC := (KDL, false, (fun _ => 0), jsB, (fun _ _ _ => none), (fun _ _ _ => none), (fun _ _ _ => none), (fun _ _ _ => none))
def D_M_wide (N : Nat) (n pc : Nat) (lv : ML) (st : List MV) (h : MH) : Option (Int64 × MH) :=
  match Nat.beq pc 0 with
  | true => (match lk lv 0, st with
    | some (.inr (.inr (0, 12, 68))), [] => f_M_wide N h
    | _, _ => none)
  | false => none
set_option maxRecDepth 1000000 in
theorem E_M_wide_0 (N : Nat) (n : Nat) (h : MH) : seg (C_M_wide N) 1 0 rJ T_M_wide [0] (fun q lv st h => match Nat.ble 1 q with
    | true => D_M_wide N n q lv st h
    | false => none) 400 true 0 [(0, .inr (.inr (0, 12, 68)))] [] h = f_M_wide N h := (rfl)
set_option maxRecDepth 1000000 in
theorem chk_M_wide : chkT 12 false prog_14_method_58_code T_M_wide = true := by decide +kernel
theorem mc_M_wide : mC 220 = prog_14_method_58_code := by rfl
theorem mx_M_wide : mL 220 = 1 ∧ mR 220 = some .long ∧ mK 220 = 1 ∧ (mN 220).cls = cN 12 := by decide +kernel
theorem hD_M_wide (N : Nat) {r : Int64 × MH} : ∀ n pc lv st h, D_M_wide N n pc lv st h = some r → ∃ lv', (∀ q ∈ lv', q ∈ lv) ∧ seg (C_M_wide N) 1 0 rJ T_M_wide [0] (fun q lv st h => match Nat.ble (pc + 1) q with
    | true => D_M_wide N n q lv st h
    | false => none) 400 true pc lv' st h = some r := by
  intro n pc lv st h hf
  unfold D_M_wide at hf
  split at hf
  · rename_i hb
    have hb := Nat.eq_of_beq_eq_true hb
    subst hb
    split at hf
    · rename_i e0
      exact ⟨_, (sub_cons e0 sub_nil), (E_M_wide_0 N n h).trans hf⟩
    · cases hf
  · skip
    cases hf
theorem hM_M_wide (N : Nat) {r : Int64 × MH} : ∀ n pc lv st h, D_M_wide N n pc lv st h = some r → pc < 20 := by
  intro n pc lv st h hf
  unfold D_M_wide at hf
  split at hf
  · rename_i hb
    rw [Nat.eq_of_beq_eq_true hb]
    decide
  · skip
    cases hf
theorem s_M_wide {l : Launch} {E : EV} {N : Nat} {as : List MV} {h : MH} {r : Int64 × MH} (hf : w_M_wide (f_M_wide N) as h = some r) : SndM l E false 0 220 as h (some (.inr (.inl r.1))) r.2 := by
  unfold w_M_wide at hf
  split at hf
  · obtain ⟨m1, m2, m3, m4⟩ := mx_M_wide
    refine snd_of (C := C_M_wide N) (own := 12) (rz := 0) (lim := 115) rJ_eq m2 m4 pl_220 (TB_in _ cw_220 rfl) ⟨(fun _ => ⟨_, _, _, _, _, _, rfl, rfl, by rw [m4]; rfl⟩), (fun z => by rw [m3] at z; cases z)⟩ (fun z => by cases z) KDL_take rfl rfl (fun z => by cases z) (fun z => by cases z) (fun _ => rfl) (by rw [m1]; exact Nat.le_of_ble_eq_true rfl)
      (fun _ _ _ _ z => by cases z)
      (fun _ _ _ _ z => by cases z)
      (fun _ _ _ _ z => by cases z)
      (fun _ _ _ _ z => by cases z)
      (fun p e R s m args below meth c Q n0 F hret => ?_)
    rw [m1] at F hret ⊢
    rw [mc_M_wide] at F hret
    exact cuts_s (K := 400) (M := 20) (D := D_M_wide N) (B := fun _ _ _ _ _ => none) F hret (chkT_ok chk_M_wide) (hM_M_wide N) (fun _ _ _ _ _ z => by cases z) (hD_M_wide N) N 0 _ _ _ hf
  · cases hf
def T_M_rest : List (List (Option RW)) := [
  [some (.aload_n 0, 1, [0], 0, 0), some (.getfield 387, 3, [12, 60, 1], 0, 0), none, none, some (.aload_n 0, 1, [0], 0, 0), some (.getfield 402, 3, [12, 65, 1], 0, 0), none, none, some (.lmul, 1, [], 0, 0), some (.aload_n 0, 1, [0], 0, 0), some (.getfield 393, 3, [12, 62, 1], 0, 0), none, none, some (.aload_n 0, 1, [0], 0, 0), some (.getfield 393, 3, [12, 62, 1], 0, 0), none, none, some (.lmul, 1, [], 0, 0), some (.lsub, 1, [], 0, 0), some (.aload_n 0, 1, [0], 0, 0), some (.invokevirtual 405, 3, [0, 220, 1, 1], 0, 0), none, none, some (.lmul, 1, [], 0, 0), some (.aload_n 0, 1, [0], 0, 0), some (.invokevirtual 408, 3, [0, 219, 1, 1], 0, 0), none, none, some (.aload_n 0, 1, [0], 0, 0), some (.invokevirtual 408, 3, [0, 219, 1, 1], 0, 0), none, none],
  [some (.lmul, 1, [], 0, 0), some (.lsub, 1, [], 0, 0), some (.lreturn, 1, [], 0, 0)]]
def f_M_rest (N : Nat) (h : MH) : Option (Int64 × MH) :=
  (f_M_wide N h).bind (fun x1 =>
  (f_M_steep N x1.2).bind (fun x2 =>
  (f_M_steep N x2.2).bind (fun x3 =>
  some (((((gJ h 68 60) * (gJ h 68 65)) - ((gJ h 68 62) * (gJ h 68 62))) * x1.1) - (x2.1 * x3.1), x3.2))))
def C_M_rest (N : Nat) : MC := (KDL, false, (fun _ => 0), jsB, (fun _ _ _ => none), (fun j => match Nat.beq j 219 with
    | true => w_M_steep (f_M_steep N)
    | false => match Nat.beq j 220 with
    | true => w_M_wide (f_M_wide N)
    | false => fun _ _ => none), (fun _ _ _ => none), (fun _ _ _ => none))
def D_M_rest (N : Nat) (n pc : Nat) (lv : ML) (st : List MV) (h : MH) : Option (Int64 × MH) :=
  match Nat.beq pc 0 with
  | true => (match lk lv 0, st with
    | some (.inr (.inr (0, 12, 68))), [] => f_M_rest N h
    | _, _ => none)
  | false => none
set_option maxRecDepth 1000000 in
theorem E_M_rest_0 (N : Nat) (n : Nat) (h : MH) : seg (C_M_rest N) 1 0 rJ T_M_rest [0] (fun q lv st h => match Nat.ble 1 q with
    | true => D_M_rest N n q lv st h
    | false => none) 400 true 0 [(0, .inr (.inr (0, 12, 68)))] [] h = f_M_rest N h := (rfl)
set_option maxRecDepth 1000000 in
theorem chk_M_rest : chkT 12 false prog_14_method_59_code T_M_rest = true := by decide +kernel
theorem mc_M_rest : mC 221 = prog_14_method_59_code := by rfl
theorem mx_M_rest : mL 221 = 1 ∧ mR 221 = some .long ∧ mK 221 = 1 ∧ (mN 221).cls = cN 12 := by decide +kernel
theorem hD_M_rest (N : Nat) {r : Int64 × MH} : ∀ n pc lv st h, D_M_rest N n pc lv st h = some r → ∃ lv', (∀ q ∈ lv', q ∈ lv) ∧ seg (C_M_rest N) 1 0 rJ T_M_rest [0] (fun q lv st h => match Nat.ble (pc + 1) q with
    | true => D_M_rest N n q lv st h
    | false => none) 400 true pc lv' st h = some r := by
  intro n pc lv st h hf
  unfold D_M_rest at hf
  split at hf
  · rename_i hb
    have hb := Nat.eq_of_beq_eq_true hb
    subst hb
    split at hf
    · rename_i e0
      exact ⟨_, (sub_cons e0 sub_nil), (E_M_rest_0 N n h).trans hf⟩
    · cases hf
  · skip
    cases hf
theorem hM_M_rest (N : Nat) {r : Int64 × MH} : ∀ n pc lv st h, D_M_rest N n pc lv st h = some r → pc < 35 := by
  intro n pc lv st h hf
  unfold D_M_rest at hf
  split at hf
  · rename_i hb
    rw [Nat.eq_of_beq_eq_true hb]
    decide
  · skip
    cases hf
theorem s_M_rest {l : Launch} {E : EV} {N : Nat} {as : List MV} {h : MH} {r : Int64 × MH} (hf : w_M_rest (f_M_rest N) as h = some r) : SndM l E false 1 221 as h (some (.inr (.inl r.1))) r.2 := by
  unfold w_M_rest at hf
  split at hf
  · obtain ⟨m1, m2, m3, m4⟩ := mx_M_rest
    refine snd_of (C := C_M_rest N) (own := 12) (rz := 0) (lim := 115) rJ_eq m2 m4 pl_221 (TB_in _ cw_221 rfl) ⟨(fun _ => ⟨_, _, _, _, _, _, rfl, rfl, by rw [m4]; rfl⟩), (fun z => by rw [m3] at z; cases z)⟩ (fun z => by cases z) KDL_take rfl rfl (fun z => by cases z) (fun z => by cases z) (fun _ => rfl) (by rw [m1]; exact Nat.le_of_ble_eq_true rfl)
      (fun _ _ _ _ z => by cases z)
      (fun j as h x z => by
      dsimp only [C_M_rest] at z
      cases hb : Nat.beq j 219 with
      | true =>
        have hb := Nat.eq_of_beq_eq_true hb
        subst hb
        exact ⟨0, by decide, (fun z => by cases z), s_M_steep z⟩
      | false =>
        rw [hb] at z
        dsimp only at z
        cases hb : Nat.beq j 220 with
        | true =>
          have hb := Nat.eq_of_beq_eq_true hb
          subst hb
          exact ⟨0, by decide, (fun z => by cases z), s_M_wide z⟩
        | false =>
          rw [hb] at z
          dsimp only at z
          cases z)
      (fun _ _ _ _ z => by cases z)
      (fun _ _ _ _ z => by cases z)
      (fun p e R s m args below meth c Q n0 F hret => ?_)
    rw [m1] at F hret ⊢
    rw [mc_M_rest] at F hret
    exact cuts_s (K := 400) (M := 35) (D := D_M_rest N) (B := fun _ _ _ _ _ => none) F hret (chkT_ok chk_M_rest) (hM_M_rest N) (fun _ _ _ _ _ z => by cases z) (hD_M_rest N) N 0 _ _ _ hf
  · cases hf
def T_M_line : List (List (Option RW)) := [
  [some (.aload_n 0, 1, [0], 0, 0), some (.iload_n 1, 1, [1], 0, 0), some (.invokevirtual 366, 3, [0, 205, 2, 0], 0, 0), none, none, some (.ifCond .eq 33, 3, [38], 0, 0), none, none, some (.iload_n 2, 1, [2], 0, 0), some (.invokestatic 369, 3, [2, 209, 1, 0], 0, 0), none, none, some (.ifCond .eq 26, 3, [38], 0, 0), none, none, some (.iload_n 3, 1, [3], 0, 0), some (.invokestatic 369, 3, [2, 209, 1, 0], 0, 0), none, none, some (.ifCond .eq 19, 3, [38], 0, 0), none, none, some (.iload_n 2, 1, [2], 0, 0), some (.iload_n 3, 1, [3], 0, 0), some (.if_icmp .gt 14, 3, [38], 0, 0), none, none, some (.iload 4, 2, [4], 0, 0), none, some (.ifCond .lt 9, 3, [38], 0, 0), none, none],
  [some (.iload 4, 2, [4], 0, 0), none, some (.iconst 1, 1, [], 1, 0), some (.if_icmp .le 9, 3, [44], 0, 0), none, none, some (.aload_n 0, 1, [0], 0, 0), some (.iconst 1, 1, [], 1, 0), some (.invokevirtual 342, 3, [0, 168, 2, 0], 0, 0), none, none, some (.ireturn, 1, [], 0, 0), some (.aload_n 0, 1, [0], 0, 0), some (.iload_n 1, 1, [1], 0, 0), some (.iload_n 2, 1, [2], 0, 0), some (.iload_n 3, 1, [3], 0, 0), some (.invokevirtual 411, 3, [0, 218, 4, 3], 0, 0), none, none, some (.aload_n 0, 1, [0], 0, 0), some (.getfield 387, 3, [12, 60, 1], 0, 0), none, none, some (.ldc2_w 415, 3, [], 0, 2), none, none, some (.lcmp, 1, [], 0, 0), some (.ifCond .ge 10, 3, [69], 0, 0), none, none, some (.aload_n 0, 1, [0], 0, 0), some (.bipush 6, 2, [], 6, 0)],
  [none, some (.invokevirtual 342, 3, [0, 168, 2, 0], 0, 0), none, none, some (.ireturn, 1, [], 0, 0), some (.iload 4, 2, [4], 0, 0), none, some (.ifCond .ne 18, 3, [89], 0, 0), none, none, some (.aload_n 0, 1, [0], 0, 0), some (.aload_n 0, 1, [0], 0, 0), some (.invokevirtual 408, 3, [0, 219, 1, 1], 0, 0), none, none, some (.aload_n 0, 1, [0], 0, 0), some (.invokevirtual 405, 3, [0, 220, 1, 1], 0, 0), none, none, some (.invokevirtual 417, 3, [0, 170, 3, 0], 0, 0), none, none, some (.goto 20, 3, [106], 0, 0), none, none, some (.aload_n 0, 1, [0], 0, 0), some (.aload_n 0, 1, [0], 0, 0), some (.invokevirtual 421, 3, [0, 221, 1, 1], 0, 0), none, none, some (.aload_n 0, 1, [0], 0, 0), some (.getfield 387, 3, [12, 60, 1], 0, 0)],
  [none, none, some (.aload_n 0, 1, [0], 0, 0), some (.invokevirtual 405, 3, [0, 220, 1, 1], 0, 0), none, none, some (.lmul, 1, [], 0, 0), some (.invokevirtual 417, 3, [0, 170, 3, 0], 0, 0), none, none, some (.ireturn, 1, [], 0, 0)]]
def f_M_line (N : Nat) (a1 : Int32) (a2 : Int32) (a3 : Int32) (a4 : Int32) (h : MH) : Option (Int32 × MH) :=
  (f_M_isMark N a1 h).bind (fun x1 =>
  if x1.1 = 0 then
  ((f_M_refuse N 1 x1.2).bind (fun x2 =>
  some (x2.1, x2.2)))
  else
  ((f_M_isYear N a2 x1.2).bind (fun x3 =>
  if x3.1 = 0 then
  ((f_M_refuse N 1 x3.2).bind (fun x4 =>
  some (x4.1, x4.2)))
  else
  ((f_M_isYear N a3 x3.2).bind (fun x5 =>
  if x5.1 = 0 then
  ((f_M_refuse N 1 x5.2).bind (fun x6 =>
  some (x6.1, x6.2)))
  else
  (if a3 < a2 then
  ((f_M_refuse N 1 x5.2).bind (fun x7 =>
  some (x7.1, x7.2)))
  else
  (if a4 < 0 then
  ((f_M_refuse N 1 x5.2).bind (fun x8 =>
  some (x8.1, x8.2)))
  else
  (if a4 ≤ 1 then
  ((f_M_fit N a1 a2 a3 x5.2).bind (fun x9 =>
  if 0 ≤ (lg_cmp (gJ x9 68 60) 2) then
  (if a4 = 0 then
  ((f_M_steep N x9).bind (fun x10 =>
  (f_M_wide N x10.2).bind (fun x11 =>
  (f_M_fraction N x10.1 x11.1 x11.2).bind (fun x12 =>
  some (x12.1, x12.2)))))
  else
  ((f_M_rest N x9).bind (fun x13 =>
  (f_M_wide N x13.2).bind (fun x14 =>
  (f_M_fraction N x13.1 ((gJ x13.2 68 60) * x14.1) x14.2).bind (fun x15 =>
  some (x15.1, x15.2))))))
  else
  ((f_M_refuse N 6 x9).bind (fun x16 =>
  some (x16.1, x16.2)))))
  else
  ((f_M_refuse N 1 x5.2).bind (fun x17 =>
  some (x17.1, x17.2)))))))))))
def C_M_line (N : Nat) : MC := (KDL, false, (fun _ => 0), jsB, (fun j => match Nat.beq j 168 with
    | true => w_M_refuse (f_M_refuse N)
    | false => match Nat.beq j 170 with
    | true => w_M_fraction (f_M_fraction N)
    | false => match Nat.beq j 205 with
    | true => w_M_isMark (f_M_isMark N)
    | false => match Nat.beq j 209 with
    | true => w_M_isYear (f_M_isYear N)
    | false => fun _ _ => none), (fun j => match Nat.beq j 219 with
    | true => w_M_steep (f_M_steep N)
    | false => match Nat.beq j 220 with
    | true => w_M_wide (f_M_wide N)
    | false => match Nat.beq j 221 with
    | true => w_M_rest (f_M_rest N)
    | false => fun _ _ => none), (fun _ _ _ => none), (fun j => match Nat.beq j 218 with
    | true => w_M_fit (f_M_fit N)
    | false => fun _ _ => none))
def D_M_line (N : Nat) (n pc : Nat) (lv : ML) (st : List MV) (h : MH) : Option (Int32 × MH) :=
  match Nat.beq pc 0 with
  | true => (match lk lv 0, lk lv 1, lk lv 2, lk lv 3, lk lv 4, st with
    | some (.inr (.inr (0, 12, 68))), some (.inl a1), some (.inl a2), some (.inl a3), some (.inl a4), [] => f_M_line N a1 a2 a3 a4 h
    | _, _, _, _, _, _ => none)
  | false => none
set_option maxRecDepth 1000000 in
theorem E_M_line_0 (N : Nat) (n : Nat) (a1 : Int32) (a2 : Int32) (a3 : Int32) (a4 : Int32) (h : MH) : seg (C_M_line N) 5 0 rI T_M_line [0] (fun q lv st h => match Nat.ble 1 q with
    | true => D_M_line N n q lv st h
    | false => none) 400 true 0 [(0, .inr (.inr (0, 12, 68))), (1, .inl a1), (2, .inl a2), (3, .inl a3), (4, .inl a4)] [] h = f_M_line N a1 a2 a3 a4 h := (rfl)
set_option maxRecDepth 1000000 in
theorem chk_M_line : chkT 12 false prog_14_method_60_code T_M_line = true := by decide +kernel
theorem mc_M_line : mC 222 = prog_14_method_60_code := by rfl
theorem mx_M_line : mL 222 = 5 ∧ mR 222 = some .int ∧ mK 222 = 1 ∧ (mN 222).cls = cN 12 := by decide +kernel
theorem hD_M_line (N : Nat) {r : Int32 × MH} : ∀ n pc lv st h, D_M_line N n pc lv st h = some r → ∃ lv', (∀ q ∈ lv', q ∈ lv) ∧ seg (C_M_line N) 5 0 rI T_M_line [0] (fun q lv st h => match Nat.ble (pc + 1) q with
    | true => D_M_line N n q lv st h
    | false => none) 400 true pc lv' st h = some r := by
  intro n pc lv st h hf
  unfold D_M_line at hf
  split at hf
  · rename_i hb
    have hb := Nat.eq_of_beq_eq_true hb
    subst hb
    split at hf
    · rename_i y0 y1 y2 y3 e0 e1 e2 e3 e4
      exact ⟨_, (sub_cons e0 (sub_cons e1 (sub_cons e2 (sub_cons e3 (sub_cons e4 sub_nil))))), (E_M_line_0 N n _ _ _ _ h).trans hf⟩
    · cases hf
  · skip
    cases hf
theorem hM_M_line (N : Nat) {r : Int32 × MH} : ∀ n pc lv st h, D_M_line N n pc lv st h = some r → pc < 107 := by
  intro n pc lv st h hf
  unfold D_M_line at hf
  split at hf
  · rename_i hb
    rw [Nat.eq_of_beq_eq_true hb]
    decide
  · skip
    cases hf
theorem s_M_line {l : Launch} {E : EV} {N : Nat} {as : List MV} {h : MH} {r : Int32 × MH} (hf : w_M_line (f_M_line N) as h = some r) : SndM l E false 2 222 as h (some (.inl r.1)) r.2 := by
  unfold w_M_line at hf
  split at hf
  · obtain ⟨m1, m2, m3, m4⟩ := mx_M_line
    refine snd_of (C := C_M_line N) (own := 12) (rz := 0) (lim := 115) rI_eq m2 m4 pl_222 (TB_in _ cw_222 rfl) ⟨(fun _ => ⟨_, _, _, _, _, _, rfl, rfl, by rw [m4]; rfl⟩), (fun z => by rw [m3] at z; cases z)⟩ (fun z => by cases z) KDL_take rfl rfl (fun z => by cases z) (fun z => by cases z) (fun _ => rfl) (by rw [m1]; exact Nat.le_of_ble_eq_true rfl)
      (fun j as h x z => by
      dsimp only [C_M_line] at z
      cases hb : Nat.beq j 168 with
      | true =>
        have hb := Nat.eq_of_beq_eq_true hb
        subst hb
        exact ⟨0, by decide, (fun z => by cases z), s_M_refuse z⟩
      | false =>
        rw [hb] at z
        dsimp only at z
        cases hb : Nat.beq j 170 with
        | true =>
          have hb := Nat.eq_of_beq_eq_true hb
          subst hb
          exact ⟨1, by decide, (fun z => by cases z), s_M_fraction z⟩
        | false =>
          rw [hb] at z
          dsimp only at z
          cases hb : Nat.beq j 205 with
          | true =>
            have hb := Nat.eq_of_beq_eq_true hb
            subst hb
            exact ⟨0, by decide, (fun z => by cases z), s_M_isMark z⟩
          | false =>
            rw [hb] at z
            dsimp only at z
            cases hb : Nat.beq j 209 with
            | true =>
              have hb := Nat.eq_of_beq_eq_true hb
              subst hb
              exact ⟨0, by decide, (fun z => by cases z), s_M_isYear z⟩
            | false =>
              rw [hb] at z
              dsimp only at z
              cases z)
      (fun j as h x z => by
      dsimp only [C_M_line] at z
      cases hb : Nat.beq j 219 with
      | true =>
        have hb := Nat.eq_of_beq_eq_true hb
        subst hb
        exact ⟨0, by decide, (fun z => by cases z), s_M_steep z⟩
      | false =>
        rw [hb] at z
        dsimp only at z
        cases hb : Nat.beq j 220 with
        | true =>
          have hb := Nat.eq_of_beq_eq_true hb
          subst hb
          exact ⟨0, by decide, (fun z => by cases z), s_M_wide z⟩
        | false =>
          rw [hb] at z
          dsimp only at z
          cases hb : Nat.beq j 221 with
          | true =>
            have hb := Nat.eq_of_beq_eq_true hb
            subst hb
            exact ⟨1, by decide, (fun z => by cases z), s_M_rest z⟩
          | false =>
            rw [hb] at z
            dsimp only at z
            cases z)
      (fun _ _ _ _ z => by cases z)
      (fun j as h x z => by
      dsimp only [C_M_line] at z
      cases hb : Nat.beq j 218 with
      | true =>
        have hb := Nat.eq_of_beq_eq_true hb
        subst hb
        exact ⟨1, by decide, (fun z => by cases z), s_M_fit z⟩
      | false =>
        rw [hb] at z
        dsimp only at z
        cases z)
      (fun p e R s m args below meth c Q n0 F hret => ?_)
    rw [m1] at F hret ⊢
    rw [mc_M_line] at F hret
    exact cuts_s (K := 400) (M := 107) (D := D_M_line N) (B := fun _ _ _ _ _ => none) F hret (chkT_ok chk_M_line) (hM_M_line N) (fun _ _ _ _ _ z => by cases z) (hD_M_line N) N 0 _ _ _ hf
  · cases hf
def T_M_breaks : List (List (Option RW)) := [
  [some (.aload_n 0, 1, [0], 0, 0), some (.iload_n 1, 1, [1], 0, 0), some (.invokevirtual 366, 3, [0, 205, 2, 0], 0, 0), none, none, some (.ifCond .ne 9, 3, [14], 0, 0), none, none, some (.aload_n 0, 1, [0], 0, 0), some (.iconst 1, 1, [], 1, 0), some (.invokevirtual 342, 3, [0, 168, 2, 0], 0, 0), none, none, some (.ireturn, 1, [], 0, 0), some (.iconst (-1), 1, [], (-1), 0), some (.istore_n 2, 1, [2], 0, 0), some (.lconst 0, 1, [], 0, 0), some (.lstore_n 3, 1, [3], 0, 0), some (.iconst 1, 1, [], 1, 0), some (.istore 5, 2, [5], 0, 0), none, some (.iload 5, 2, [5], 0, 0), none, some (.bipush 20, 2, [], 20, 0), none, some (.if_icmp .ge 112, 3, [137], 0, 0), none, none, some (.aload_n 0, 1, [0], 0, 0), some (.iload_n 1, 1, [1], 0, 0), some (.iconst 0, 1, [], 0, 0), some (.iload 5, 2, [5], 0, 0)],
  [none, some (.iconst 1, 1, [], 1, 0), some (.isub, 1, [], 0, 0), some (.invokevirtual 411, 3, [0, 218, 4, 3], 0, 0), none, none, some (.aload_n 0, 1, [0], 0, 0), some (.getfield 387, 3, [12, 60, 1], 0, 0), none, none, some (.ldc2_w 415, 3, [], 0, 2), none, none, some (.lcmp, 1, [], 0, 0), some (.ifCond .ge 6, 3, [52], 0, 0), none, none, some (.goto 82, 3, [131], 0, 0), none, none, some (.aload_n 0, 1, [0], 0, 0), some (.invokevirtual 421, 3, [0, 221, 1, 1], 0, 0), none, none, some (.aload_n 0, 1, [0], 0, 0), some (.getfield 387, 3, [12, 60, 1], 0, 0), none, none, some (.aload_n 0, 1, [0], 0, 0), some (.invokevirtual 405, 3, [0, 220, 1, 1], 0, 0), none, none],
  [some (.lmul, 1, [], 0, 0), some (.ldiv, 1, [], 0, 0), some (.lstore 6, 2, [6], 0, 0), none, some (.aload_n 0, 1, [0], 0, 0), some (.iload_n 1, 1, [1], 0, 0), some (.iload 5, 2, [5], 0, 0), none, some (.bipush 19, 2, [], 19, 0), none, some (.invokevirtual 411, 3, [0, 218, 4, 3], 0, 0), none, none, some (.aload_n 0, 1, [0], 0, 0), some (.getfield 387, 3, [12, 60, 1], 0, 0), none, none, some (.ldc2_w 415, 3, [], 0, 2), none, none, some (.lcmp, 1, [], 0, 0), some (.ifCond .ge 6, 3, [91], 0, 0), none, none, some (.goto 43, 3, [131], 0, 0), none, none, some (.lload 6, 2, [6], 0, 0), none, some (.aload_n 0, 1, [0], 0, 0), some (.invokevirtual 421, 3, [0, 221, 1, 1], 0, 0), none],
  [none, some (.aload_n 0, 1, [0], 0, 0), some (.getfield 387, 3, [12, 60, 1], 0, 0), none, none, some (.aload_n 0, 1, [0], 0, 0), some (.invokevirtual 405, 3, [0, 220, 1, 1], 0, 0), none, none, some (.lmul, 1, [], 0, 0), some (.ldiv, 1, [], 0, 0), some (.ladd, 1, [], 0, 0), some (.lstore 6, 2, [6], 0, 0), none, some (.iload_n 2, 1, [2], 0, 0), some (.iconst (-1), 1, [], (-1), 0), some (.if_icmp .eq 13, 3, [125], 0, 0), none, none, some (.lload 6, 2, [6], 0, 0), none, some (.lload_n 3, 1, [3], 0, 0), some (.lcmp, 1, [], 0, 0), some (.ifCond .lt 6, 3, [125], 0, 0), none, none, some (.goto 9, 3, [131], 0, 0), none, none, some (.iload 5, 2, [5], 0, 0), none, some (.istore_n 2, 1, [2], 0, 0)],
  [some (.lload 6, 2, [6], 0, 0), none, some (.lstore_n 3, 1, [3], 0, 0), some (.iinc 5 1, 3, [5], 1, 0), none, none, some (.goto (-113), 3, [21], 0, 0), none, none, some (.iload_n 2, 1, [2], 0, 0), some (.iconst (-1), 1, [], (-1), 0), some (.if_icmp .ne 12, 3, [151], 0, 0), none, none, some (.aload_n 0, 1, [0], 0, 0), some (.bipush 6, 2, [], 6, 0), none, some (.invokevirtual 342, 3, [0, 168, 2, 0], 0, 0), none, none, some (.goto 8, 3, [156], 0, 0), none, none, some (.aload_n 0, 1, [0], 0, 0), some (.iload_n 2, 1, [2], 0, 0), some (.invokevirtual 180, 3, [0, 169, 2, 0], 0, 0), none, none, some (.ireturn, 1, [], 0, 0)]]
def F_M_breaks_21 (N : Nat) (bk : (Int32 → Int32 → Int64 → Int32 → MH → Option (Int32 × MH))) (a1 : Int32) (a2 : Int32) (a3 : Int64) (a5 : Int32) (h : MH) : Option (Int32 × MH) :=
  if 20 ≤ a5 then
  (if a2 = ((-1)) then
  ((f_M_refuse N 6 h).bind (fun x3 =>
  some (x3.1, x3.2)))
  else
  ((f_M_gives N a2 h).bind (fun x4 =>
  some (x4.1, x4.2))))
  else
  ((f_M_fit N a1 0 (a5 - 1) h).bind (fun x5 =>
  if 0 ≤ (lg_cmp (gJ x5 68 60) 2) then
  ((f_M_rest N x5).bind (fun x6 =>
  (f_M_wide N x6.2).bind (fun x7 =>
  if ((gJ x6.2 68 60) * x7.1) = 0 then none else
  let v8 : Int64 := x6.1 / ((gJ x6.2 68 60) * x7.1)
  (f_M_fit N a1 a5 19 x7.2).bind (fun x9 =>
  if 0 ≤ (lg_cmp (gJ x9 68 60) 2) then
  ((f_M_rest N x9).bind (fun x10 =>
  (f_M_wide N x10.2).bind (fun x11 =>
  if ((gJ x10.2 68 60) * x11.1) = 0 then none else
  let v12 : Int64 := v8 + (x10.1 / ((gJ x10.2 68 60) * x11.1))
  if a2 = ((-1)) then
  (let v13 : Int32 := a5 + 1
  bk a1 a5 v12 v13 x11.2)
  else
  (if (lg_cmp v12 a3) < 0 then
  (let v14 : Int32 := a5 + 1
  bk a1 a5 v12 v14 x11.2)
  else
  (let v15 : Int32 := a5 + 1
  bk a1 a2 a3 v15 x11.2)))))
  else
  (let v16 : Int32 := a5 + 1
  bk a1 a2 a3 v16 x9)))))
  else
  (let v17 : Int32 := a5 + 1
  bk a1 a2 a3 v17 x5)))
def F_M_breaks_0 (N : Nat) (bk : (Int32 → Int32 → Int64 → Int32 → MH → Option (Int32 × MH))) (a1 : Int32) (h : MH) : Option (Int32 × MH) :=
  (f_M_isMark N a1 h).bind (fun x1 =>
  if x1.1 = 0 then
  ((f_M_refuse N 1 x1.2).bind (fun x2 =>
  some (x2.1, x2.2)))
  else
  (F_M_breaks_21 N bk a1 ((-1)) 0 1 x1.2))
def L_M_breaks (N : Nat) : Nat → (Int32 → Int32 → Int64 → Int32 → MH → Option (Int32 × MH))
  | 0 => fun _ _ _ _ _ => none
  | n + 1 => F_M_breaks_21 N (L_M_breaks N n)
def f_M_breaks (N : Nat) (a1 : Int32) (h : MH) : Option (Int32 × MH) := F_M_breaks_0 N (L_M_breaks N N) a1 h
def C_M_breaks (N : Nat) : MC := (KDL, false, (fun _ => 0), jsB, (fun j => match Nat.beq j 168 with
    | true => w_M_refuse (f_M_refuse N)
    | false => match Nat.beq j 169 with
    | true => w_M_gives (f_M_gives N)
    | false => match Nat.beq j 205 with
    | true => w_M_isMark (f_M_isMark N)
    | false => fun _ _ => none), (fun j => match Nat.beq j 220 with
    | true => w_M_wide (f_M_wide N)
    | false => match Nat.beq j 221 with
    | true => w_M_rest (f_M_rest N)
    | false => fun _ _ => none), (fun _ _ _ => none), (fun j => match Nat.beq j 218 with
    | true => w_M_fit (f_M_fit N)
    | false => fun _ _ => none))
def D_M_breaks (N : Nat) (n pc : Nat) (lv : ML) (st : List MV) (h : MH) : Option (Int32 × MH) :=
  match Nat.beq pc 0 with
  | true => (match lk lv 0, lk lv 1, st with
    | some (.inr (.inr (0, 12, 68))), some (.inl a1), [] => F_M_breaks_0 N (L_M_breaks N n) a1 h
    | _, _, _ => none)
  | false => match Nat.beq pc 21 with
  | true => (match lk lv 0, lk lv 1, lk lv 2, lk lv 3, lk lv 5, st with
    | some (.inr (.inr (0, 12, 68))), some (.inl a1), some (.inl a2), some (.inr (.inl a3)), some (.inl a5), [] => F_M_breaks_21 N (L_M_breaks N n) a1 a2 a3 a5 h
    | _, _, _, _, _, _ => none)
  | false => none
def B_M_breaks (N : Nat) (n pc : Nat) (lv : ML) (st : List MV) (h : MH) : Option (Int32 × MH) :=
  match Nat.beq pc 21 with
  | true => (match lk lv 0, lk lv 1, lk lv 2, lk lv 3, lk lv 5, st with
    | some (.inr (.inr (0, 12, 68))), some (.inl a1), some (.inl a2), some (.inr (.inl a3)), some (.inl a5), [] => ((L_M_breaks N n)) a1 a2 a3 a5 h
    | _, _, _, _, _, _ => none)
  | false => none
set_option maxRecDepth 1000000 in
theorem E_M_breaks_0 (N : Nat) (n : Nat) (a1 : Int32) (h : MH) : seg (C_M_breaks N) 8 0 rI T_M_breaks [0, 21] (fun q lv st h => match Nat.ble 1 q with
    | true => D_M_breaks N n q lv st h
    | false => B_M_breaks N n q lv st h) 400 true 0 [(0, .inr (.inr (0, 12, 68))), (1, .inl a1)] [] h = F_M_breaks_0 N (L_M_breaks N n) a1 h := (rfl)
set_option maxRecDepth 1000000 in
theorem E_M_breaks_21 (N : Nat) (n : Nat) (a1 : Int32) (a2 : Int32) (a3 : Int64) (a5 : Int32) (h : MH) : seg (C_M_breaks N) 8 0 rI T_M_breaks [0, 21] (fun q lv st h => match Nat.ble 22 q with
    | true => D_M_breaks N n q lv st h
    | false => B_M_breaks N n q lv st h) 400 true 21 [(0, .inr (.inr (0, 12, 68))), (1, .inl a1), (2, .inl a2), (3, .inr (.inl a3)), (5, .inl a5)] [] h = F_M_breaks_21 N (L_M_breaks N n) a1 a2 a3 a5 h := (rfl)
set_option maxRecDepth 1000000 in
theorem chk_M_breaks : chkT 12 false prog_14_method_61_code T_M_breaks = true := by decide +kernel
theorem mc_M_breaks : mC 223 = prog_14_method_61_code := by rfl
theorem mx_M_breaks : mL 223 = 8 ∧ mR 223 = some .int ∧ mK 223 = 1 ∧ (mN 223).cls = cN 12 := by decide +kernel
theorem hD_M_breaks (N : Nat) {r : Int32 × MH} : ∀ n pc lv st h, D_M_breaks N n pc lv st h = some r → ∃ lv', (∀ q ∈ lv', q ∈ lv) ∧ seg (C_M_breaks N) 8 0 rI T_M_breaks [0, 21] (fun q lv st h => match Nat.ble (pc + 1) q with
    | true => D_M_breaks N n q lv st h
    | false => B_M_breaks N n q lv st h) 400 true pc lv' st h = some r := by
  intro n pc lv st h hf
  unfold D_M_breaks at hf
  split at hf
  · rename_i hb
    have hb := Nat.eq_of_beq_eq_true hb
    subst hb
    split at hf
    · rename_i y0 e0 e1
      exact ⟨_, (sub_cons e0 (sub_cons e1 sub_nil)), (E_M_breaks_0 N n _ h).trans hf⟩
    · cases hf
  · skip
    split at hf
    · rename_i hb
      have hb := Nat.eq_of_beq_eq_true hb
      subst hb
      split at hf
      · rename_i y0 y1 y2 y3 e0 e1 e2 e3 e4
        exact ⟨_, (sub_cons e0 (sub_cons e1 (sub_cons e2 (sub_cons e3 (sub_cons e4 sub_nil))))), (E_M_breaks_21 N n _ _ _ _ h).trans hf⟩
      · cases hf
    · skip
      cases hf
theorem hM_M_breaks (N : Nat) {r : Int32 × MH} : ∀ n pc lv st h, D_M_breaks N n pc lv st h = some r → pc < 157 := by
  intro n pc lv st h hf
  unfold D_M_breaks at hf
  split at hf
  · rename_i hb
    rw [Nat.eq_of_beq_eq_true hb]
    decide
  · skip
    split at hf
    · rename_i hb
      rw [Nat.eq_of_beq_eq_true hb]
      decide
    · skip
      cases hf
theorem hB_M_breaks (N : Nat) {r : Int32 × MH} : ∀ n pc lv st h, B_M_breaks N n pc lv st h = some r → ∃ k, n = k + 1 ∧ D_M_breaks N k pc lv st h = some r := by
  intro n pc lv st h hf
  unfold B_M_breaks at hf
  split at hf
  · rename_i hb
    have hb := Nat.eq_of_beq_eq_true hb
    subst hb
    cases n with
    | zero =>
      split at hf
      · cases hf
      · cases hf
    | succ k =>
      refine ⟨k, rfl, ?_⟩
      exact hf
  · skip
    cases hf
theorem s_M_breaks {l : Launch} {E : EV} {N : Nat} {as : List MV} {h : MH} {r : Int32 × MH} (hf : w_M_breaks (f_M_breaks N) as h = some r) : SndM l E false 2 223 as h (some (.inl r.1)) r.2 := by
  unfold w_M_breaks at hf
  split at hf
  · obtain ⟨m1, m2, m3, m4⟩ := mx_M_breaks
    refine snd_of (C := C_M_breaks N) (own := 12) (rz := 0) (lim := 115) rI_eq m2 m4 pl_223 (TB_in _ cw_223 rfl) ⟨(fun _ => ⟨_, _, _, _, _, _, rfl, rfl, by rw [m4]; rfl⟩), (fun z => by rw [m3] at z; cases z)⟩ (fun z => by cases z) KDL_take rfl rfl (fun z => by cases z) (fun z => by cases z) (fun _ => rfl) (by rw [m1]; exact Nat.le_of_ble_eq_true rfl)
      (fun j as h x z => by
      dsimp only [C_M_breaks] at z
      cases hb : Nat.beq j 168 with
      | true =>
        have hb := Nat.eq_of_beq_eq_true hb
        subst hb
        exact ⟨0, by decide, (fun z => by cases z), s_M_refuse z⟩
      | false =>
        rw [hb] at z
        dsimp only at z
        cases hb : Nat.beq j 169 with
        | true =>
          have hb := Nat.eq_of_beq_eq_true hb
          subst hb
          exact ⟨0, by decide, (fun z => by cases z), s_M_gives z⟩
        | false =>
          rw [hb] at z
          dsimp only at z
          cases hb : Nat.beq j 205 with
          | true =>
            have hb := Nat.eq_of_beq_eq_true hb
            subst hb
            exact ⟨0, by decide, (fun z => by cases z), s_M_isMark z⟩
          | false =>
            rw [hb] at z
            dsimp only at z
            cases z)
      (fun j as h x z => by
      dsimp only [C_M_breaks] at z
      cases hb : Nat.beq j 220 with
      | true =>
        have hb := Nat.eq_of_beq_eq_true hb
        subst hb
        exact ⟨0, by decide, (fun z => by cases z), s_M_wide z⟩
      | false =>
        rw [hb] at z
        dsimp only at z
        cases hb : Nat.beq j 221 with
        | true =>
          have hb := Nat.eq_of_beq_eq_true hb
          subst hb
          exact ⟨1, by decide, (fun z => by cases z), s_M_rest z⟩
        | false =>
          rw [hb] at z
          dsimp only at z
          cases z)
      (fun _ _ _ _ z => by cases z)
      (fun j as h x z => by
      dsimp only [C_M_breaks] at z
      cases hb : Nat.beq j 218 with
      | true =>
        have hb := Nat.eq_of_beq_eq_true hb
        subst hb
        exact ⟨1, by decide, (fun z => by cases z), s_M_fit z⟩
      | false =>
        rw [hb] at z
        dsimp only at z
        cases z)
      (fun p e R s m args below meth c Q n0 F hret => ?_)
    rw [m1] at F hret ⊢
    rw [mc_M_breaks] at F hret
    exact cuts_s (K := 400) (M := 157) (D := D_M_breaks N) (B := B_M_breaks N) F hret (chkT_ok chk_M_breaks) (hM_M_breaks N) (hB_M_breaks N) (hD_M_breaks N) N 0 _ _ _ hf
  · cases hf
def T_M_sideOf : List (List (Option RW)) := [
  [some (.aload_n 0, 1, [0], 0, 0), some (.iload_n 1, 1, [1], 0, 0), some (.invokevirtual 384, 3, [0, 216, 2, 0], 0, 0), none, none, some (.i2l, 1, [], 0, 0), some (.lstore_n 2, 1, [2], 0, 0), some (.lload_n 2, 1, [2], 0, 0), some (.aload_n 0, 1, [0], 0, 0), some (.getfield 387, 3, [12, 60, 1], 0, 0), none, none, some (.lmul, 1, [], 0, 0), some (.aload_n 0, 1, [0], 0, 0), some (.getfield 393, 3, [12, 62, 1], 0, 0), none, none, some (.lsub, 1, [], 0, 0), some (.aload_n 0, 1, [0], 0, 0), some (.invokevirtual 405, 3, [0, 220, 1, 1], 0, 0), none, none, some (.lmul, 1, [], 0, 0), some (.aload_n 0, 1, [0], 0, 0), some (.invokevirtual 408, 3, [0, 219, 1, 1], 0, 0), none, none, some (.aload_n 0, 1, [0], 0, 0), some (.getfield 387, 3, [12, 60, 1], 0, 0), none, none, some (.aload_n 0, 1, [0], 0, 0)],
  [some (.getfield 108, 3, [12, 53, 2, 1, 160, 28], 0, 0), none, none, some (.iload_n 1, 1, [1], 0, 0), some (.iaload, 1, [], 0, 0), some (.i2l, 1, [], 0, 0), some (.lmul, 1, [], 0, 0), some (.aload_n 0, 1, [0], 0, 0), some (.getfield 390, 3, [12, 61, 1], 0, 0), none, none, some (.lsub, 1, [], 0, 0), some (.lmul, 1, [], 0, 0), some (.lsub, 1, [], 0, 0), some (.lstore 4, 2, [4], 0, 0), none, some (.aload_n 0, 1, [0], 0, 0), some (.getfield 114, 3, [12, 55, 2, 1, 160, 30], 0, 0), none, none, some (.iload_n 1, 1, [1], 0, 0), some (.iaload, 1, [], 0, 0), some (.i2l, 1, [], 0, 0), some (.aload_n 0, 1, [0], 0, 0), some (.getfield 387, 3, [12, 60, 1], 0, 0), none, none, some (.lmul, 1, [], 0, 0), some (.aload_n 0, 1, [0], 0, 0), some (.invokevirtual 405, 3, [0, 220, 1, 1], 0, 0), none, none],
  [some (.lmul, 1, [], 0, 0), some (.lstore 6, 2, [6], 0, 0), none, some (.lload 4, 2, [4], 0, 0), none, some (.lload 6, 2, [6], 0, 0), none, some (.lcmp, 1, [], 0, 0), some (.ifCond .le 7, 3, [79], 0, 0), none, none, some (.iconst 1, 1, [], 1, 0), some (.goto 17, 3, [93], 0, 0), none, none, some (.lload 4, 2, [4], 0, 0), none, some (.lneg, 1, [], 0, 0), some (.lload 6, 2, [6], 0, 0), none, some (.lcmp, 1, [], 0, 0), some (.ifCond .le 7, 3, [92], 0, 0), none, none, some (.iconst (-1), 1, [], (-1), 0), some (.goto 4, 3, [93], 0, 0), none, none, some (.iconst 0, 1, [], 0, 0), some (.ireturn, 1, [], 0, 0)]]
def f_M_sideOf (N : Nat) (a1 : Int32) (h : MH) : Option (Int32 × MH) :=
  (f_M_valueOf N a1 h).bind (fun x1 =>
  (f_M_wide N x1.2).bind (fun x2 =>
  (f_M_steep N x2.2).bind (fun x3 =>
  if inB a1 160 = true then
  (let v4 : Int64 := (((x1.1.toInt64 * (gJ x1.2 68 60)) - (gJ x1.2 68 62)) * x2.1) - (x3.1 * (((gJ x3.2 68 60) * (((gI x3.2 96 (iN a1))).toInt64)) - (gJ x3.2 68 61)))
  if inB a1 160 = true then
  ((f_M_wide N x3.2).bind (fun x5 =>
  let v6 : Int64 := ((((gI x3.2 98 (iN a1))).toInt64) * (gJ x3.2 68 60)) * x5.1
  if (lg_cmp v4 v6) ≤ 0 then
  (if (lg_cmp (-v4) v6) ≤ 0 then
  (some (0, x5.2))
  else
  (some ((-1), x5.2)))
  else
  (some (1, x5.2))))
  else none)
  else none)))
def C_M_sideOf (N : Nat) : MC := (KDL, false, (fun _ => 0), jsB, (fun j => match Nat.beq j 216 with
    | true => w_M_valueOf (f_M_valueOf N)
    | false => fun _ _ => none), (fun j => match Nat.beq j 219 with
    | true => w_M_steep (f_M_steep N)
    | false => match Nat.beq j 220 with
    | true => w_M_wide (f_M_wide N)
    | false => fun _ _ => none), (fun _ _ _ => none), (fun _ _ _ => none))
def D_M_sideOf (N : Nat) (n pc : Nat) (lv : ML) (st : List MV) (h : MH) : Option (Int32 × MH) :=
  match Nat.beq pc 0 with
  | true => (match lk lv 0, lk lv 1, st with
    | some (.inr (.inr (0, 12, 68))), some (.inl a1), [] => f_M_sideOf N a1 h
    | _, _, _ => none)
  | false => none
set_option maxRecDepth 1000000 in
theorem E_M_sideOf_0 (N : Nat) (n : Nat) (a1 : Int32) (h : MH) : seg (C_M_sideOf N) 8 0 rI T_M_sideOf [0] (fun q lv st h => match Nat.ble 1 q with
    | true => D_M_sideOf N n q lv st h
    | false => none) 400 true 0 [(0, .inr (.inr (0, 12, 68))), (1, .inl a1)] [] h = f_M_sideOf N a1 h := (rfl)
set_option maxRecDepth 1000000 in
theorem chk_M_sideOf : chkT 12 false prog_14_method_62_code T_M_sideOf = true := by decide +kernel
theorem mc_M_sideOf : mC 224 = prog_14_method_62_code := by rfl
theorem mx_M_sideOf : mL 224 = 8 ∧ mR 224 = some .int ∧ mK 224 = 1 ∧ (mN 224).cls = cN 12 := by decide +kernel
theorem hD_M_sideOf (N : Nat) {r : Int32 × MH} : ∀ n pc lv st h, D_M_sideOf N n pc lv st h = some r → ∃ lv', (∀ q ∈ lv', q ∈ lv) ∧ seg (C_M_sideOf N) 8 0 rI T_M_sideOf [0] (fun q lv st h => match Nat.ble (pc + 1) q with
    | true => D_M_sideOf N n q lv st h
    | false => none) 400 true pc lv' st h = some r := by
  intro n pc lv st h hf
  unfold D_M_sideOf at hf
  split at hf
  · rename_i hb
    have hb := Nat.eq_of_beq_eq_true hb
    subst hb
    split at hf
    · rename_i y0 e0 e1
      exact ⟨_, (sub_cons e0 (sub_cons e1 sub_nil)), (E_M_sideOf_0 N n _ h).trans hf⟩
    · cases hf
  · skip
    cases hf
theorem hM_M_sideOf (N : Nat) {r : Int32 × MH} : ∀ n pc lv st h, D_M_sideOf N n pc lv st h = some r → pc < 94 := by
  intro n pc lv st h hf
  unfold D_M_sideOf at hf
  split at hf
  · rename_i hb
    rw [Nat.eq_of_beq_eq_true hb]
    decide
  · skip
    cases hf
theorem s_M_sideOf {l : Launch} {E : EV} {N : Nat} {as : List MV} {h : MH} {r : Int32 × MH} (hf : w_M_sideOf (f_M_sideOf N) as h = some r) : SndM l E false 1 224 as h (some (.inl r.1)) r.2 := by
  unfold w_M_sideOf at hf
  split at hf
  · obtain ⟨m1, m2, m3, m4⟩ := mx_M_sideOf
    refine snd_of (C := C_M_sideOf N) (own := 12) (rz := 0) (lim := 115) rI_eq m2 m4 pl_224 (TB_in _ cw_224 rfl) ⟨(fun _ => ⟨_, _, _, _, _, _, rfl, rfl, by rw [m4]; rfl⟩), (fun z => by rw [m3] at z; cases z)⟩ (fun z => by cases z) KDL_take rfl rfl (fun z => by cases z) (fun z => by cases z) (fun _ => rfl) (by rw [m1]; exact Nat.le_of_ble_eq_true rfl)
      (fun j as h x z => by
      dsimp only [C_M_sideOf] at z
      cases hb : Nat.beq j 216 with
      | true =>
        have hb := Nat.eq_of_beq_eq_true hb
        subst hb
        exact ⟨0, by decide, (fun z => by cases z), s_M_valueOf z⟩
      | false =>
        rw [hb] at z
        dsimp only at z
        cases z)
      (fun j as h x z => by
      dsimp only [C_M_sideOf] at z
      cases hb : Nat.beq j 219 with
      | true =>
        have hb := Nat.eq_of_beq_eq_true hb
        subst hb
        exact ⟨0, by decide, (fun z => by cases z), s_M_steep z⟩
      | false =>
        rw [hb] at z
        dsimp only at z
        cases hb : Nat.beq j 220 with
        | true =>
          have hb := Nat.eq_of_beq_eq_true hb
          subst hb
          exact ⟨0, by decide, (fun z => by cases z), s_M_wide z⟩
        | false =>
          rw [hb] at z
          dsimp only at z
          cases z)
      (fun _ _ _ _ z => by cases z)
      (fun _ _ _ _ z => by cases z)
      (fun p e R s m args below meth c Q n0 F hret => ?_)
    rw [m1] at F hret ⊢
    rw [mc_M_sideOf] at F hret
    exact cuts_s (K := 400) (M := 94) (D := D_M_sideOf N) (B := fun _ _ _ _ _ => none) F hret (chkT_ok chk_M_sideOf) (hM_M_sideOf N) (fun _ _ _ _ _ z => by cases z) (hD_M_sideOf N) N 0 _ _ _ hf
  · cases hf
def T_M_slow : List (List (Option RW)) := [
  [some (.aload_n 0, 1, [0], 0, 0), some (.iload_n 1, 1, [1], 0, 0), some (.invokevirtual 366, 3, [0, 205, 2, 0], 0, 0), none, none, some (.ifCond .eq 29, 3, [34], 0, 0), none, none, some (.iload_n 2, 1, [2], 0, 0), some (.iconst 2, 1, [], 2, 0), some (.if_icmp .lt 24, 3, [34], 0, 0), none, none, some (.iload_n 2, 1, [2], 0, 0), some (.bipush 10, 2, [], 10, 0), none, some (.if_icmp .gt 18, 3, [34], 0, 0), none, none, some (.iload_n 3, 1, [3], 0, 0), some (.ifCond .lt 14, 3, [34], 0, 0), none, none, some (.iload 4, 2, [4], 0, 0), none, some (.ifCond .lt 9, 3, [34], 0, 0), none, none, some (.iload 4, 2, [4], 0, 0), none, some (.iconst 2, 1, [], 2, 0), some (.if_icmp .le 9, 3, [40], 0, 0)],
  [none, none, some (.aload_n 0, 1, [0], 0, 0), some (.iconst 1, 1, [], 1, 0), some (.invokevirtual 342, 3, [0, 168, 2, 0], 0, 0), none, none, some (.ireturn, 1, [], 0, 0), some (.aload_n 0, 1, [0], 0, 0), some (.iload_n 1, 1, [1], 0, 0), some (.iconst 0, 1, [], 0, 0), some (.bipush 19, 2, [], 19, 0), none, some (.invokevirtual 411, 3, [0, 218, 4, 3], 0, 0), none, none, some (.aload_n 0, 1, [0], 0, 0), some (.getfield 387, 3, [12, 60, 1], 0, 0), none, none, some (.ldc2_w 415, 3, [], 0, 2), none, none, some (.lcmp, 1, [], 0, 0), some (.ifCond .ge 10, 3, [66], 0, 0), none, none, some (.aload_n 0, 1, [0], 0, 0), some (.bipush 6, 2, [], 6, 0), none, some (.invokevirtual 342, 3, [0, 168, 2, 0], 0, 0), none],
  [none, some (.ireturn, 1, [], 0, 0), some (.iload_n 3, 1, [3], 0, 0), some (.istore 5, 2, [5], 0, 0), none, some (.iconst 0, 1, [], 0, 0), some (.istore 6, 2, [6], 0, 0), none, some (.iconst 0, 1, [], 0, 0), some (.istore 7, 2, [7], 0, 0), none, some (.iconst 0, 1, [], 0, 0), some (.istore 8, 2, [8], 0, 0), none, some (.iconst 0, 1, [], 0, 0), some (.istore 9, 2, [9], 0, 0), none, some (.iconst 0, 1, [], 0, 0), some (.istore 10, 2, [10], 0, 0), none, some (.iload 10, 2, [10], 0, 0), none, some (.bipush 20, 2, [], 20, 0), none, some (.if_icmp .gt 156, 3, [244], 0, 0), none, none, some (.iload 10, 2, [10], 0, 0), none, some (.bipush 20, 2, [], 20, 0), none, some (.if_icmp .ne 7, 3, [102], 0, 0)],
  [none, none, some (.iconst (-1), 1, [], (-1), 0), some (.goto 10, 3, [109], 0, 0), none, none, some (.aload_n 0, 1, [0], 0, 0), some (.iload_n 1, 1, [1], 0, 0), some (.iload 10, 2, [10], 0, 0), none, some (.invokevirtual 381, 3, [0, 215, 3, 0], 0, 0), none, none, some (.istore 11, 2, [11], 0, 0), none, some (.iload 11, 2, [11], 0, 0), none, some (.iconst (-1), 1, [], (-1), 0), some (.if_icmp .ne 13, 3, [127], 0, 0), none, none, some (.iload 10, 2, [10], 0, 0), none, some (.bipush 20, 2, [], 20, 0), none, some (.if_icmp .ge 6, 3, [127], 0, 0), none, none, some (.goto 114, 3, [238], 0, 0), none, none, some (.iload 11, 2, [11], 0, 0)],
  [none, some (.iconst (-1), 1, [], (-1), 0), some (.if_icmp .ne 7, 3, [137], 0, 0), none, none, some (.iconst 0, 1, [], 0, 0), some (.goto 9, 3, [143], 0, 0), none, none, some (.aload_n 0, 1, [0], 0, 0), some (.iload 11, 2, [11], 0, 0), none, some (.invokevirtual 424, 3, [0, 224, 2, 0], 0, 0), none, none, some (.istore 12, 2, [12], 0, 0), none, some (.iload 12, 2, [12], 0, 0), none, some (.ifCond .eq 20, 3, [167], 0, 0), none, none, some (.iload 12, 2, [12], 0, 0), none, some (.iload 6, 2, [6], 0, 0), none, some (.if_icmp .ne 13, 3, [167], 0, 0), none, none, some (.iinc 9 1, 3, [9], 1, 0), none, none],
  [some (.iload 10, 2, [10], 0, 0), none, some (.istore 8, 2, [8], 0, 0), none, some (.goto 74, 3, [238], 0, 0), none, none, some (.iload 6, 2, [6], 0, 0), none, some (.ifCond .eq 54, 3, [223], 0, 0), none, none, some (.iload 9, 2, [9], 0, 0), none, some (.iload_n 2, 1, [2], 0, 0), some (.if_icmp .lt 48, 3, [223], 0, 0), none, none, some (.iload 5, 2, [5], 0, 0), none, some (.ifCond .ne 40, 3, [220], 0, 0), none, none, some (.aload_n 0, 1, [0], 0, 0), some (.iload 4, 2, [4], 0, 0), none, some (.ifCond .ne 8, 3, [194], 0, 0), none, none, some (.iload 7, 2, [7], 0, 0), none, some (.goto 25, 3, [216], 0, 0)],
  [none, none, some (.iload 4, 2, [4], 0, 0), none, some (.iconst 1, 1, [], 1, 0), some (.if_icmp .ne 8, 3, [205], 0, 0), none, none, some (.iload 8, 2, [8], 0, 0), none, some (.goto 14, 3, [216], 0, 0), none, none, some (.iload 6, 2, [6], 0, 0), none, some (.iconst 1, 1, [], 1, 0), some (.if_icmp .ne 7, 3, [215], 0, 0), none, none, some (.iconst 1, 1, [], 1, 0), some (.goto 4, 3, [216], 0, 0), none, none, some (.iconst 0, 1, [], 0, 0), some (.invokevirtual 180, 3, [0, 169, 2, 0], 0, 0), none, none, some (.ireturn, 1, [], 0, 0), some (.iinc 5 (-1), 3, [5], (-1), 0), none, none, some (.iload 12, 2, [12], 0, 0)],
  [none, some (.istore 6, 2, [6], 0, 0), none, some (.iload 10, 2, [10], 0, 0), none, some (.istore 7, 2, [7], 0, 0), none, some (.iload 10, 2, [10], 0, 0), none, some (.istore 8, 2, [8], 0, 0), none, some (.iconst 1, 1, [], 1, 0), some (.istore 9, 2, [9], 0, 0), none, some (.iinc 10 1, 3, [10], 1, 0), none, none, some (.goto (-157), 3, [84], 0, 0), none, none, some (.aload_n 0, 1, [0], 0, 0), some (.bipush 6, 2, [], 6, 0), none, some (.invokevirtual 342, 3, [0, 168, 2, 0], 0, 0), none, none, some (.ireturn, 1, [], 0, 0)]]
def F_M_slow_223 (N : Nat) (bk : (Int32 → Int32 → Int32 → Int32 → Int32 → Int32 → Int32 → Int32 → Int32 → MH → Option (Int32 × MH))) (a1 : Int32) (a2 : Int32) (a4 : Int32) (a5 : Int32) (a10 : Int32) (a12 : Int32) (h : MH) : Option (Int32 × MH) :=
  let v21 : Int32 := a10 + 1
  bk a1 a2 a4 a5 a12 a10 a10 1 v21 h
def F_M_slow_167 (N : Nat) (bk : (Int32 → Int32 → Int32 → Int32 → Int32 → Int32 → Int32 → Int32 → Int32 → MH → Option (Int32 × MH))) (a1 : Int32) (a2 : Int32) (a4 : Int32) (a5 : Int32) (a6 : Int32) (a7 : Int32) (a8 : Int32) (a9 : Int32) (a10 : Int32) (a12 : Int32) (h : MH) : Option (Int32 × MH) :=
  if a6 = 0 then
  (F_M_slow_223 N bk a1 a2 a4 a5 a10 a12 h)
  else
  (if a9 < a2 then
  (F_M_slow_223 N bk a1 a2 a4 a5 a10 a12 h)
  else
  (if a5 = 0 then
  (if a4 = 0 then
  ((f_M_gives N a7 h).bind (fun x16 =>
  some (x16.1, x16.2)))
  else
  (if a4 = 1 then
  ((f_M_gives N a8 h).bind (fun x17 =>
  some (x17.1, x17.2)))
  else
  (if a6 = 1 then
  ((f_M_gives N 1 h).bind (fun x18 =>
  some (x18.1, x18.2)))
  else
  ((f_M_gives N 0 h).bind (fun x19 =>
  some (x19.1, x19.2))))))
  else
  (let v20 : Int32 := a5 + (-1)
  F_M_slow_223 N bk a1 a2 a4 v20 a10 a12 h)))
def F_M_slow_143 (N : Nat) (bk : (Int32 → Int32 → Int32 → Int32 → Int32 → Int32 → Int32 → Int32 → Int32 → MH → Option (Int32 × MH))) (a1 : Int32) (a2 : Int32) (a4 : Int32) (a5 : Int32) (a6 : Int32) (a7 : Int32) (a8 : Int32) (a9 : Int32) (a10 : Int32) (as0 : Int32) (h : MH) : Option (Int32 × MH) :=
  if as0 = 0 then
  (F_M_slow_167 N bk a1 a2 a4 a5 a6 a7 a8 a9 a10 as0 h)
  else
  (if as0 = a6 then
  (let v14 : Int32 := a9 + 1
  let v15 : Int32 := a10 + 1
  bk a1 a2 a4 a5 a6 a7 a10 v14 v15 h)
  else
  (F_M_slow_167 N bk a1 a2 a4 a5 a6 a7 a8 a9 a10 as0 h))
def F_M_slow_127 (N : Nat) (bk : (Int32 → Int32 → Int32 → Int32 → Int32 → Int32 → Int32 → Int32 → Int32 → MH → Option (Int32 × MH))) (a1 : Int32) (a2 : Int32) (a4 : Int32) (a5 : Int32) (a6 : Int32) (a7 : Int32) (a8 : Int32) (a9 : Int32) (a10 : Int32) (a11 : Int32) (h : MH) : Option (Int32 × MH) :=
  if a11 = ((-1)) then
  (F_M_slow_143 N bk a1 a2 a4 a5 a6 a7 a8 a9 a10 0 h)
  else
  ((f_M_sideOf N a11 h).bind (fun x13 =>
  F_M_slow_143 N bk a1 a2 a4 a5 a6 a7 a8 a9 a10 x13.1 x13.2))
def F_M_slow_109 (N : Nat) (bk : (Int32 → Int32 → Int32 → Int32 → Int32 → Int32 → Int32 → Int32 → Int32 → MH → Option (Int32 × MH))) (a1 : Int32) (a2 : Int32) (a4 : Int32) (a5 : Int32) (a6 : Int32) (a7 : Int32) (a8 : Int32) (a9 : Int32) (a10 : Int32) (as0 : Int32) (h : MH) : Option (Int32 × MH) :=
  if as0 = ((-1)) then
  (if 20 ≤ a10 then
  (F_M_slow_127 N bk a1 a2 a4 a5 a6 a7 a8 a9 a10 as0 h)
  else
  (let v12 : Int32 := a10 + 1
  bk a1 a2 a4 a5 a6 a7 a8 a9 v12 h))
  else
  (F_M_slow_127 N bk a1 a2 a4 a5 a6 a7 a8 a9 a10 as0 h)
def F_M_slow_84 (N : Nat) (bk : (Int32 → Int32 → Int32 → Int32 → Int32 → Int32 → Int32 → Int32 → Int32 → MH → Option (Int32 × MH))) (a1 : Int32) (a2 : Int32) (a4 : Int32) (a5 : Int32) (a6 : Int32) (a7 : Int32) (a8 : Int32) (a9 : Int32) (a10 : Int32) (h : MH) : Option (Int32 × MH) :=
  if 20 < a10 then
  ((f_M_refuse N 6 h).bind (fun x10 =>
  some (x10.1, x10.2)))
  else
  (if a10 = 20 then
  (F_M_slow_109 N bk a1 a2 a4 a5 a6 a7 a8 a9 a10 ((-1)) h)
  else
  ((f_M_rowOf N a1 a10 h).bind (fun x11 =>
  F_M_slow_109 N bk a1 a2 a4 a5 a6 a7 a8 a9 a10 x11.1 x11.2)))
def F_M_slow_0 (N : Nat) (bk : (Int32 → Int32 → Int32 → Int32 → Int32 → Int32 → Int32 → Int32 → Int32 → MH → Option (Int32 × MH))) (a1 : Int32) (a2 : Int32) (a3 : Int32) (a4 : Int32) (h : MH) : Option (Int32 × MH) :=
  (f_M_isMark N a1 h).bind (fun x1 =>
  if x1.1 = 0 then
  ((f_M_refuse N 1 x1.2).bind (fun x2 =>
  some (x2.1, x2.2)))
  else
  (if a2 < 2 then
  ((f_M_refuse N 1 x1.2).bind (fun x3 =>
  some (x3.1, x3.2)))
  else
  (if 10 < a2 then
  ((f_M_refuse N 1 x1.2).bind (fun x4 =>
  some (x4.1, x4.2)))
  else
  (if a3 < 0 then
  ((f_M_refuse N 1 x1.2).bind (fun x5 =>
  some (x5.1, x5.2)))
  else
  (if a4 < 0 then
  ((f_M_refuse N 1 x1.2).bind (fun x6 =>
  some (x6.1, x6.2)))
  else
  (if a4 ≤ 2 then
  ((f_M_fit N a1 0 19 x1.2).bind (fun x7 =>
  if 0 ≤ (lg_cmp (gJ x7 68 60) 2) then
  (F_M_slow_84 N bk a1 a2 a4 a3 0 0 0 0 0 x7)
  else
  ((f_M_refuse N 6 x7).bind (fun x8 =>
  some (x8.1, x8.2)))))
  else
  ((f_M_refuse N 1 x1.2).bind (fun x9 =>
  some (x9.1, x9.2)))))))))
def L_M_slow (N : Nat) : Nat → (Int32 → Int32 → Int32 → Int32 → Int32 → Int32 → Int32 → Int32 → Int32 → MH → Option (Int32 × MH))
  | 0 => fun _ _ _ _ _ _ _ _ _ _ => none
  | n + 1 => F_M_slow_84 N (L_M_slow N n)
def f_M_slow (N : Nat) (a1 : Int32) (a2 : Int32) (a3 : Int32) (a4 : Int32) (h : MH) : Option (Int32 × MH) := F_M_slow_0 N (L_M_slow N N) a1 a2 a3 a4 h
def C_M_slow (N : Nat) : MC := (KDL, false, (fun _ => 0), jsB, (fun j => match Nat.beq j 168 with
    | true => w_M_refuse (f_M_refuse N)
    | false => match Nat.beq j 169 with
    | true => w_M_gives (f_M_gives N)
    | false => match Nat.beq j 205 with
    | true => w_M_isMark (f_M_isMark N)
    | false => match Nat.beq j 215 with
    | true => w_M_rowOf (f_M_rowOf N)
    | false => match Nat.beq j 224 with
    | true => w_M_sideOf (f_M_sideOf N)
    | false => fun _ _ => none), (fun _ _ _ => none), (fun _ _ _ => none), (fun j => match Nat.beq j 218 with
    | true => w_M_fit (f_M_fit N)
    | false => fun _ _ => none))
def D_M_slow (N : Nat) (n pc : Nat) (lv : ML) (st : List MV) (h : MH) : Option (Int32 × MH) :=
  match Nat.beq pc 0 with
  | true => (match lk lv 0, lk lv 1, lk lv 2, lk lv 3, lk lv 4, st with
    | some (.inr (.inr (0, 12, 68))), some (.inl a1), some (.inl a2), some (.inl a3), some (.inl a4), [] => F_M_slow_0 N (L_M_slow N n) a1 a2 a3 a4 h
    | _, _, _, _, _, _ => none)
  | false => match Nat.beq pc 84 with
  | true => (match lk lv 0, lk lv 1, lk lv 2, lk lv 4, lk lv 5, lk lv 6, lk lv 7, lk lv 8, lk lv 9, lk lv 10, st with
    | some (.inr (.inr (0, 12, 68))), some (.inl a1), some (.inl a2), some (.inl a4), some (.inl a5), some (.inl a6), some (.inl a7), some (.inl a8), some (.inl a9), some (.inl a10), [] => F_M_slow_84 N (L_M_slow N n) a1 a2 a4 a5 a6 a7 a8 a9 a10 h
    | _, _, _, _, _, _, _, _, _, _, _ => none)
  | false => match Nat.beq pc 109 with
  | true => (match lk lv 0, lk lv 1, lk lv 2, lk lv 4, lk lv 5, lk lv 6, lk lv 7, lk lv 8, lk lv 9, lk lv 10, st with
    | some (.inr (.inr (0, 12, 68))), some (.inl a1), some (.inl a2), some (.inl a4), some (.inl a5), some (.inl a6), some (.inl a7), some (.inl a8), some (.inl a9), some (.inl a10), [.inl as0] => F_M_slow_109 N (L_M_slow N n) a1 a2 a4 a5 a6 a7 a8 a9 a10 as0 h
    | _, _, _, _, _, _, _, _, _, _, _ => none)
  | false => match Nat.beq pc 127 with
  | true => (match lk lv 0, lk lv 1, lk lv 2, lk lv 4, lk lv 5, lk lv 6, lk lv 7, lk lv 8, lk lv 9, lk lv 10, lk lv 11, st with
    | some (.inr (.inr (0, 12, 68))), some (.inl a1), some (.inl a2), some (.inl a4), some (.inl a5), some (.inl a6), some (.inl a7), some (.inl a8), some (.inl a9), some (.inl a10), some (.inl a11), [] => F_M_slow_127 N (L_M_slow N n) a1 a2 a4 a5 a6 a7 a8 a9 a10 a11 h
    | _, _, _, _, _, _, _, _, _, _, _, _ => none)
  | false => match Nat.beq pc 143 with
  | true => (match lk lv 0, lk lv 1, lk lv 2, lk lv 4, lk lv 5, lk lv 6, lk lv 7, lk lv 8, lk lv 9, lk lv 10, st with
    | some (.inr (.inr (0, 12, 68))), some (.inl a1), some (.inl a2), some (.inl a4), some (.inl a5), some (.inl a6), some (.inl a7), some (.inl a8), some (.inl a9), some (.inl a10), [.inl as0] => F_M_slow_143 N (L_M_slow N n) a1 a2 a4 a5 a6 a7 a8 a9 a10 as0 h
    | _, _, _, _, _, _, _, _, _, _, _ => none)
  | false => match Nat.beq pc 167 with
  | true => (match lk lv 0, lk lv 1, lk lv 2, lk lv 4, lk lv 5, lk lv 6, lk lv 7, lk lv 8, lk lv 9, lk lv 10, lk lv 12, st with
    | some (.inr (.inr (0, 12, 68))), some (.inl a1), some (.inl a2), some (.inl a4), some (.inl a5), some (.inl a6), some (.inl a7), some (.inl a8), some (.inl a9), some (.inl a10), some (.inl a12), [] => F_M_slow_167 N (L_M_slow N n) a1 a2 a4 a5 a6 a7 a8 a9 a10 a12 h
    | _, _, _, _, _, _, _, _, _, _, _, _ => none)
  | false => match Nat.beq pc 223 with
  | true => (match lk lv 0, lk lv 1, lk lv 2, lk lv 4, lk lv 5, lk lv 10, lk lv 12, st with
    | some (.inr (.inr (0, 12, 68))), some (.inl a1), some (.inl a2), some (.inl a4), some (.inl a5), some (.inl a10), some (.inl a12), [] => F_M_slow_223 N (L_M_slow N n) a1 a2 a4 a5 a10 a12 h
    | _, _, _, _, _, _, _, _ => none)
  | false => none
def B_M_slow (N : Nat) (n pc : Nat) (lv : ML) (st : List MV) (h : MH) : Option (Int32 × MH) :=
  match Nat.beq pc 84 with
  | true => (match lk lv 0, lk lv 1, lk lv 2, lk lv 4, lk lv 5, lk lv 6, lk lv 7, lk lv 8, lk lv 9, lk lv 10, st with
    | some (.inr (.inr (0, 12, 68))), some (.inl a1), some (.inl a2), some (.inl a4), some (.inl a5), some (.inl a6), some (.inl a7), some (.inl a8), some (.inl a9), some (.inl a10), [] => ((L_M_slow N n)) a1 a2 a4 a5 a6 a7 a8 a9 a10 h
    | _, _, _, _, _, _, _, _, _, _, _ => none)
  | false => none
set_option maxRecDepth 1000000 in
theorem E_M_slow_0 (N : Nat) (n : Nat) (a1 : Int32) (a2 : Int32) (a3 : Int32) (a4 : Int32) (h : MH) : seg (C_M_slow N) 13 0 rI T_M_slow [0, 84, 109, 127, 143, 167, 223] (fun q lv st h => match Nat.ble 1 q with
    | true => D_M_slow N n q lv st h
    | false => B_M_slow N n q lv st h) 400 true 0 [(0, .inr (.inr (0, 12, 68))), (1, .inl a1), (2, .inl a2), (3, .inl a3), (4, .inl a4)] [] h = F_M_slow_0 N (L_M_slow N n) a1 a2 a3 a4 h := (rfl)
set_option maxRecDepth 1000000 in
theorem E_M_slow_84 (N : Nat) (n : Nat) (a1 : Int32) (a2 : Int32) (a4 : Int32) (a5 : Int32) (a6 : Int32) (a7 : Int32) (a8 : Int32) (a9 : Int32) (a10 : Int32) (h : MH) : seg (C_M_slow N) 13 0 rI T_M_slow [0, 84, 109, 127, 143, 167, 223] (fun q lv st h => match Nat.ble 85 q with
    | true => D_M_slow N n q lv st h
    | false => B_M_slow N n q lv st h) 400 true 84 [(0, .inr (.inr (0, 12, 68))), (1, .inl a1), (2, .inl a2), (4, .inl a4), (5, .inl a5), (6, .inl a6), (7, .inl a7), (8, .inl a8), (9, .inl a9), (10, .inl a10)] [] h = F_M_slow_84 N (L_M_slow N n) a1 a2 a4 a5 a6 a7 a8 a9 a10 h := (rfl)
set_option maxRecDepth 1000000 in
theorem E_M_slow_109 (N : Nat) (n : Nat) (a1 : Int32) (a2 : Int32) (a4 : Int32) (a5 : Int32) (a6 : Int32) (a7 : Int32) (a8 : Int32) (a9 : Int32) (a10 : Int32) (as0 : Int32) (h : MH) : seg (C_M_slow N) 13 0 rI T_M_slow [0, 84, 109, 127, 143, 167, 223] (fun q lv st h => match Nat.ble 110 q with
    | true => D_M_slow N n q lv st h
    | false => B_M_slow N n q lv st h) 400 true 109 [(0, .inr (.inr (0, 12, 68))), (1, .inl a1), (2, .inl a2), (4, .inl a4), (5, .inl a5), (6, .inl a6), (7, .inl a7), (8, .inl a8), (9, .inl a9), (10, .inl a10)] [.inl as0] h = F_M_slow_109 N (L_M_slow N n) a1 a2 a4 a5 a6 a7 a8 a9 a10 as0 h := (rfl)
set_option maxRecDepth 1000000 in
theorem E_M_slow_127 (N : Nat) (n : Nat) (a1 : Int32) (a2 : Int32) (a4 : Int32) (a5 : Int32) (a6 : Int32) (a7 : Int32) (a8 : Int32) (a9 : Int32) (a10 : Int32) (a11 : Int32) (h : MH) : seg (C_M_slow N) 13 0 rI T_M_slow [0, 84, 109, 127, 143, 167, 223] (fun q lv st h => match Nat.ble 128 q with
    | true => D_M_slow N n q lv st h
    | false => B_M_slow N n q lv st h) 400 true 127 [(0, .inr (.inr (0, 12, 68))), (1, .inl a1), (2, .inl a2), (4, .inl a4), (5, .inl a5), (6, .inl a6), (7, .inl a7), (8, .inl a8), (9, .inl a9), (10, .inl a10), (11, .inl a11)] [] h = F_M_slow_127 N (L_M_slow N n) a1 a2 a4 a5 a6 a7 a8 a9 a10 a11 h := (rfl)
set_option maxRecDepth 1000000 in
theorem E_M_slow_143 (N : Nat) (n : Nat) (a1 : Int32) (a2 : Int32) (a4 : Int32) (a5 : Int32) (a6 : Int32) (a7 : Int32) (a8 : Int32) (a9 : Int32) (a10 : Int32) (as0 : Int32) (h : MH) : seg (C_M_slow N) 13 0 rI T_M_slow [0, 84, 109, 127, 143, 167, 223] (fun q lv st h => match Nat.ble 144 q with
    | true => D_M_slow N n q lv st h
    | false => B_M_slow N n q lv st h) 400 true 143 [(0, .inr (.inr (0, 12, 68))), (1, .inl a1), (2, .inl a2), (4, .inl a4), (5, .inl a5), (6, .inl a6), (7, .inl a7), (8, .inl a8), (9, .inl a9), (10, .inl a10)] [.inl as0] h = F_M_slow_143 N (L_M_slow N n) a1 a2 a4 a5 a6 a7 a8 a9 a10 as0 h := (rfl)
set_option maxRecDepth 1000000 in
theorem E_M_slow_167 (N : Nat) (n : Nat) (a1 : Int32) (a2 : Int32) (a4 : Int32) (a5 : Int32) (a6 : Int32) (a7 : Int32) (a8 : Int32) (a9 : Int32) (a10 : Int32) (a12 : Int32) (h : MH) : seg (C_M_slow N) 13 0 rI T_M_slow [0, 84, 109, 127, 143, 167, 223] (fun q lv st h => match Nat.ble 168 q with
    | true => D_M_slow N n q lv st h
    | false => B_M_slow N n q lv st h) 400 true 167 [(0, .inr (.inr (0, 12, 68))), (1, .inl a1), (2, .inl a2), (4, .inl a4), (5, .inl a5), (6, .inl a6), (7, .inl a7), (8, .inl a8), (9, .inl a9), (10, .inl a10), (12, .inl a12)] [] h = F_M_slow_167 N (L_M_slow N n) a1 a2 a4 a5 a6 a7 a8 a9 a10 a12 h := (rfl)
set_option maxRecDepth 1000000 in
theorem E_M_slow_223 (N : Nat) (n : Nat) (a1 : Int32) (a2 : Int32) (a4 : Int32) (a5 : Int32) (a10 : Int32) (a12 : Int32) (h : MH) : seg (C_M_slow N) 13 0 rI T_M_slow [0, 84, 109, 127, 143, 167, 223] (fun q lv st h => match Nat.ble 224 q with
    | true => D_M_slow N n q lv st h
    | false => B_M_slow N n q lv st h) 400 true 223 [(0, .inr (.inr (0, 12, 68))), (1, .inl a1), (2, .inl a2), (4, .inl a4), (5, .inl a5), (10, .inl a10), (12, .inl a12)] [] h = F_M_slow_223 N (L_M_slow N n) a1 a2 a4 a5 a10 a12 h := (rfl)
set_option maxRecDepth 1000000 in
theorem chk_M_slow : chkT 12 false prog_14_method_63_code T_M_slow = true := by decide +kernel
theorem mc_M_slow : mC 225 = prog_14_method_63_code := by rfl
theorem mx_M_slow : mL 225 = 13 ∧ mR 225 = some .int ∧ mK 225 = 1 ∧ (mN 225).cls = cN 12 := by decide +kernel
theorem hD_M_slow (N : Nat) {r : Int32 × MH} : ∀ n pc lv st h, D_M_slow N n pc lv st h = some r → ∃ lv', (∀ q ∈ lv', q ∈ lv) ∧ seg (C_M_slow N) 13 0 rI T_M_slow [0, 84, 109, 127, 143, 167, 223] (fun q lv st h => match Nat.ble (pc + 1) q with
    | true => D_M_slow N n q lv st h
    | false => B_M_slow N n q lv st h) 400 true pc lv' st h = some r := by
  intro n pc lv st h hf
  unfold D_M_slow at hf
  split at hf
  · rename_i hb
    have hb := Nat.eq_of_beq_eq_true hb
    subst hb
    split at hf
    · rename_i y0 y1 y2 y3 e0 e1 e2 e3 e4
      exact ⟨_, (sub_cons e0 (sub_cons e1 (sub_cons e2 (sub_cons e3 (sub_cons e4 sub_nil))))), (E_M_slow_0 N n _ _ _ _ h).trans hf⟩
    · cases hf
  · skip
    split at hf
    · rename_i hb
      have hb := Nat.eq_of_beq_eq_true hb
      subst hb
      split at hf
      · rename_i y0 y1 y2 y3 y4 y5 y6 y7 y8 e0 e1 e2 e3 e4 e5 e6 e7 e8 e9
        exact ⟨_, (sub_cons e0 (sub_cons e1 (sub_cons e2 (sub_cons e3 (sub_cons e4 (sub_cons e5 (sub_cons e6 (sub_cons e7 (sub_cons e8 (sub_cons e9 sub_nil)))))))))), (E_M_slow_84 N n _ _ _ _ _ _ _ _ _ h).trans hf⟩
      · cases hf
    · skip
      split at hf
      · rename_i hb
        have hb := Nat.eq_of_beq_eq_true hb
        subst hb
        split at hf
        · rename_i y0 y1 y2 y3 y4 y5 y6 y7 y8 y9 e0 e1 e2 e3 e4 e5 e6 e7 e8 e9
          exact ⟨_, (sub_cons e0 (sub_cons e1 (sub_cons e2 (sub_cons e3 (sub_cons e4 (sub_cons e5 (sub_cons e6 (sub_cons e7 (sub_cons e8 (sub_cons e9 sub_nil)))))))))), (E_M_slow_109 N n _ _ _ _ _ _ _ _ _ _ h).trans hf⟩
        · cases hf
      · skip
        split at hf
        · rename_i hb
          have hb := Nat.eq_of_beq_eq_true hb
          subst hb
          split at hf
          · rename_i y0 y1 y2 y3 y4 y5 y6 y7 y8 y9 e0 e1 e2 e3 e4 e5 e6 e7 e8 e9 e10
            exact ⟨_, (sub_cons e0 (sub_cons e1 (sub_cons e2 (sub_cons e3 (sub_cons e4 (sub_cons e5 (sub_cons e6 (sub_cons e7 (sub_cons e8 (sub_cons e9 (sub_cons e10 sub_nil))))))))))), (E_M_slow_127 N n _ _ _ _ _ _ _ _ _ _ h).trans hf⟩
          · cases hf
        · skip
          split at hf
          · rename_i hb
            have hb := Nat.eq_of_beq_eq_true hb
            subst hb
            split at hf
            · rename_i y0 y1 y2 y3 y4 y5 y6 y7 y8 y9 e0 e1 e2 e3 e4 e5 e6 e7 e8 e9
              exact ⟨_, (sub_cons e0 (sub_cons e1 (sub_cons e2 (sub_cons e3 (sub_cons e4 (sub_cons e5 (sub_cons e6 (sub_cons e7 (sub_cons e8 (sub_cons e9 sub_nil)))))))))), (E_M_slow_143 N n _ _ _ _ _ _ _ _ _ _ h).trans hf⟩
            · cases hf
          · skip
            split at hf
            · rename_i hb
              have hb := Nat.eq_of_beq_eq_true hb
              subst hb
              split at hf
              · rename_i y0 y1 y2 y3 y4 y5 y6 y7 y8 y9 e0 e1 e2 e3 e4 e5 e6 e7 e8 e9 e10
                exact ⟨_, (sub_cons e0 (sub_cons e1 (sub_cons e2 (sub_cons e3 (sub_cons e4 (sub_cons e5 (sub_cons e6 (sub_cons e7 (sub_cons e8 (sub_cons e9 (sub_cons e10 sub_nil))))))))))), (E_M_slow_167 N n _ _ _ _ _ _ _ _ _ _ h).trans hf⟩
              · cases hf
            · skip
              split at hf
              · rename_i hb
                have hb := Nat.eq_of_beq_eq_true hb
                subst hb
                split at hf
                · rename_i y0 y1 y2 y3 y4 y5 e0 e1 e2 e3 e4 e5 e6
                  exact ⟨_, (sub_cons e0 (sub_cons e1 (sub_cons e2 (sub_cons e3 (sub_cons e4 (sub_cons e5 (sub_cons e6 sub_nil))))))), (E_M_slow_223 N n _ _ _ _ _ _ h).trans hf⟩
                · cases hf
              · skip
                cases hf
theorem hM_M_slow (N : Nat) {r : Int32 × MH} : ∀ n pc lv st h, D_M_slow N n pc lv st h = some r → pc < 251 := by
  intro n pc lv st h hf
  unfold D_M_slow at hf
  split at hf
  · rename_i hb
    rw [Nat.eq_of_beq_eq_true hb]
    decide
  · skip
    split at hf
    · rename_i hb
      rw [Nat.eq_of_beq_eq_true hb]
      decide
    · skip
      split at hf
      · rename_i hb
        rw [Nat.eq_of_beq_eq_true hb]
        decide
      · skip
        split at hf
        · rename_i hb
          rw [Nat.eq_of_beq_eq_true hb]
          decide
        · skip
          split at hf
          · rename_i hb
            rw [Nat.eq_of_beq_eq_true hb]
            decide
          · skip
            split at hf
            · rename_i hb
              rw [Nat.eq_of_beq_eq_true hb]
              decide
            · skip
              split at hf
              · rename_i hb
                rw [Nat.eq_of_beq_eq_true hb]
                decide
              · skip
                cases hf
theorem hB_M_slow (N : Nat) {r : Int32 × MH} : ∀ n pc lv st h, B_M_slow N n pc lv st h = some r → ∃ k, n = k + 1 ∧ D_M_slow N k pc lv st h = some r := by
  intro n pc lv st h hf
  unfold B_M_slow at hf
  split at hf
  · rename_i hb
    have hb := Nat.eq_of_beq_eq_true hb
    subst hb
    cases n with
    | zero =>
      split at hf
      · cases hf
      · cases hf
    | succ k =>
      refine ⟨k, rfl, ?_⟩
      exact hf
  · skip
    cases hf
theorem s_M_slow {l : Launch} {E : EV} {N : Nat} {as : List MV} {h : MH} {r : Int32 × MH} (hf : w_M_slow (f_M_slow N) as h = some r) : SndM l E false 2 225 as h (some (.inl r.1)) r.2 := by
  unfold w_M_slow at hf
  split at hf
  · obtain ⟨m1, m2, m3, m4⟩ := mx_M_slow
    refine snd_of (C := C_M_slow N) (own := 12) (rz := 0) (lim := 115) rI_eq m2 m4 pl_225 (TB_in _ cw_225 rfl) ⟨(fun _ => ⟨_, _, _, _, _, _, rfl, rfl, by rw [m4]; rfl⟩), (fun z => by rw [m3] at z; cases z)⟩ (fun z => by cases z) KDL_take rfl rfl (fun z => by cases z) (fun z => by cases z) (fun _ => rfl) (by rw [m1]; exact Nat.le_of_ble_eq_true rfl)
      (fun j as h x z => by
      dsimp only [C_M_slow] at z
      cases hb : Nat.beq j 168 with
      | true =>
        have hb := Nat.eq_of_beq_eq_true hb
        subst hb
        exact ⟨0, by decide, (fun z => by cases z), s_M_refuse z⟩
      | false =>
        rw [hb] at z
        dsimp only at z
        cases hb : Nat.beq j 169 with
        | true =>
          have hb := Nat.eq_of_beq_eq_true hb
          subst hb
          exact ⟨0, by decide, (fun z => by cases z), s_M_gives z⟩
        | false =>
          rw [hb] at z
          dsimp only at z
          cases hb : Nat.beq j 205 with
          | true =>
            have hb := Nat.eq_of_beq_eq_true hb
            subst hb
            exact ⟨0, by decide, (fun z => by cases z), s_M_isMark z⟩
          | false =>
            rw [hb] at z
            dsimp only at z
            cases hb : Nat.beq j 215 with
            | true =>
              have hb := Nat.eq_of_beq_eq_true hb
              subst hb
              exact ⟨0, by decide, (fun z => by cases z), s_M_rowOf z⟩
            | false =>
              rw [hb] at z
              dsimp only at z
              cases hb : Nat.beq j 224 with
              | true =>
                have hb := Nat.eq_of_beq_eq_true hb
                subst hb
                exact ⟨1, by decide, (fun z => by cases z), s_M_sideOf z⟩
              | false =>
                rw [hb] at z
                dsimp only at z
                cases z)
      (fun _ _ _ _ z => by cases z)
      (fun _ _ _ _ z => by cases z)
      (fun j as h x z => by
      dsimp only [C_M_slow] at z
      cases hb : Nat.beq j 218 with
      | true =>
        have hb := Nat.eq_of_beq_eq_true hb
        subst hb
        exact ⟨1, by decide, (fun z => by cases z), s_M_fit z⟩
      | false =>
        rw [hb] at z
        dsimp only at z
        cases z)
      (fun p e R s m args below meth c Q n0 F hret => ?_)
    rw [m1] at F hret ⊢
    rw [mc_M_slow] at F hret
    exact cuts_s (K := 400) (M := 251) (D := D_M_slow N) (B := B_M_slow N) F hret (chkT_ok chk_M_slow) (hM_M_slow N) (hB_M_slow N) (hD_M_slow N) N 0 _ _ _ hf
  · cases hf
def T_M_smooth : List (List (Option RW)) := [
  [some (.iload_n 1, 1, [1], 0, 0), some (.ifCond .lt 9, 3, [10], 0, 0), none, none, some (.iload_n 1, 1, [1], 0, 0), some (.bipush 9, 2, [], 9, 0), none, some (.if_icmp .le 9, 3, [16], 0, 0), none, none, some (.aload_n 0, 1, [0], 0, 0), some (.iconst 1, 1, [], 1, 0), some (.invokevirtual 188, 3, [0, 167, 2, 0], 0, 0), none, none, some (.ireturn, 1, [], 0, 0), some (.aload_n 0, 1, [0], 0, 0), some (.iload_n 1, 1, [1], 0, 0), some (.putfield 129, 3, [12, 66, 0], 0, 0), none, none, some (.aload_n 0, 1, [0], 0, 0), some (.iconst 0, 1, [], 0, 0), some (.invokevirtual 188, 3, [0, 167, 2, 0], 0, 0), none, none, some (.ireturn, 1, [], 0, 0)]]
def f_M_smooth (N : Nat) (a1 : Int32) (h : MH) : Option (Int32 × MH) :=
  if a1 < 0 then
  ((f_M_is N 1 h).bind (fun x1 =>
  match narOK 1 x1.1 with
  | true => some (x1.1, x1.2)
  | false => none))
  else
  (if a1 ≤ 9 then
  (let h2 : MH := sI h 68 66 a1
  (f_M_is N 0 h2).bind (fun x3 =>
  match narOK 1 x3.1 with
  | true => some (x3.1, x3.2)
  | false => none))
  else
  ((f_M_is N 1 h).bind (fun x4 =>
  match narOK 1 x4.1 with
  | true => some (x4.1, x4.2)
  | false => none)))
def C_M_smooth (N : Nat) : MC := (KDL, false, (fun _ => 0), jsB, (fun j => match Nat.beq j 167 with
    | true => w_M_is (f_M_is N)
    | false => fun _ _ => none), (fun _ _ _ => none), (fun _ _ _ => none), (fun _ _ _ => none))
def D_M_smooth (N : Nat) (n pc : Nat) (lv : ML) (st : List MV) (h : MH) : Option (Int32 × MH) :=
  match Nat.beq pc 0 with
  | true => (match lk lv 0, lk lv 1, st with
    | some (.inr (.inr (0, 12, 68))), some (.inl a1), [] => f_M_smooth N a1 h
    | _, _, _ => none)
  | false => none
set_option maxRecDepth 1000000 in
theorem E_M_smooth_0 (N : Nat) (n : Nat) (a1 : Int32) (h : MH) : seg (C_M_smooth N) 2 1 rI T_M_smooth [0] (fun q lv st h => match Nat.ble 1 q with
    | true => D_M_smooth N n q lv st h
    | false => none) 400 true 0 [(0, .inr (.inr (0, 12, 68))), (1, .inl a1)] [] h = f_M_smooth N a1 h := (rfl)
set_option maxRecDepth 1000000 in
theorem chk_M_smooth : chkT 12 false prog_14_method_64_code T_M_smooth = true := by decide +kernel
theorem mc_M_smooth : mC 226 = prog_14_method_64_code := by rfl
theorem mx_M_smooth : mL 226 = 2 ∧ mR 226 = some .boolean ∧ mK 226 = 1 ∧ (mN 226).cls = cN 12 := by decide +kernel
theorem hD_M_smooth (N : Nat) {r : Int32 × MH} : ∀ n pc lv st h, D_M_smooth N n pc lv st h = some r → ∃ lv', (∀ q ∈ lv', q ∈ lv) ∧ seg (C_M_smooth N) 2 1 rI T_M_smooth [0] (fun q lv st h => match Nat.ble (pc + 1) q with
    | true => D_M_smooth N n q lv st h
    | false => none) 400 true pc lv' st h = some r := by
  intro n pc lv st h hf
  unfold D_M_smooth at hf
  split at hf
  · rename_i hb
    have hb := Nat.eq_of_beq_eq_true hb
    subst hb
    split at hf
    · rename_i y0 e0 e1
      exact ⟨_, (sub_cons e0 (sub_cons e1 sub_nil)), (E_M_smooth_0 N n _ h).trans hf⟩
    · cases hf
  · skip
    cases hf
theorem hM_M_smooth (N : Nat) {r : Int32 × MH} : ∀ n pc lv st h, D_M_smooth N n pc lv st h = some r → pc < 27 := by
  intro n pc lv st h hf
  unfold D_M_smooth at hf
  split at hf
  · rename_i hb
    rw [Nat.eq_of_beq_eq_true hb]
    decide
  · skip
    cases hf
theorem s_M_smooth {l : Launch} {E : EV} {N : Nat} {as : List MV} {h : MH} {r : Int32 × MH} (hf : w_M_smooth (f_M_smooth N) as h = some r) : SndM l E false 1 226 as h (some (.inl r.1)) r.2 := by
  unfold w_M_smooth at hf
  split at hf
  · obtain ⟨m1, m2, m3, m4⟩ := mx_M_smooth
    refine snd_of (C := C_M_smooth N) (own := 12) (rz := 1) (lim := 115) rI_eq m2 m4 pl_226 (TB_in _ cw_226 rfl) ⟨(fun _ => ⟨_, _, _, _, _, _, rfl, rfl, by rw [m4]; rfl⟩), (fun z => by rw [m3] at z; cases z)⟩ (fun z => by cases z) KDL_take rfl rfl (fun z => by cases z) (fun z => by cases z) (fun _ => rfl) (by rw [m1]; exact Nat.le_of_ble_eq_true rfl)
      (fun j as h x z => by
      dsimp only [C_M_smooth] at z
      cases hb : Nat.beq j 167 with
      | true =>
        have hb := Nat.eq_of_beq_eq_true hb
        subst hb
        exact ⟨0, by decide, (fun z => by cases z), s_M_is z⟩
      | false =>
        rw [hb] at z
        dsimp only at z
        cases z)
      (fun _ _ _ _ z => by cases z)
      (fun _ _ _ _ z => by cases z)
      (fun _ _ _ _ z => by cases z)
      (fun p e R s m args below meth c Q n0 F hret => ?_)
    rw [m1] at F hret ⊢
    rw [mc_M_smooth] at F hret
    exact cuts_s (K := 400) (M := 27) (D := D_M_smooth N) (B := fun _ _ _ _ _ => none) F hret (chkT_ok chk_M_smooth) (hM_M_smooth N) (fun _ _ _ _ _ z => by cases z) (hD_M_smooth N) N 0 _ _ _ hf
  · cases hf
def T_M_see : List (List (Option RW)) := [
  [some (.aload_n 0, 1, [0], 0, 0), some (.iconst 0, 1, [], 0, 0), some (.putfield 427, 3, [12, 67, 0], 0, 0), none, none, some (.iconst 0, 1, [], 0, 0), some (.istore_n 3, 1, [3], 0, 0), some (.iload_n 3, 1, [3], 0, 0), some (.aload_n 0, 1, [0], 0, 0), some (.getfield 351, 3, [12, 33, 0], 0, 0), none, none, some (.if_icmp .ge 115, 3, [127], 0, 0), none, none, some (.aload_n 0, 1, [0], 0, 0), some (.iload_n 3, 1, [3], 0, 0), some (.iload_n 1, 1, [1], 0, 0), some (.invokevirtual 381, 3, [0, 215, 3, 0], 0, 0), none, none, some (.istore 4, 2, [4], 0, 0), none, some (.aload_n 0, 1, [0], 0, 0), some (.iload_n 3, 1, [3], 0, 0), some (.iload_n 2, 1, [2], 0, 0), some (.invokevirtual 381, 3, [0, 215, 3, 0], 0, 0), none, none, some (.istore 5, 2, [5], 0, 0), none, some (.iload 4, 2, [4], 0, 0)],
  [none, some (.iconst (-1), 1, [], (-1), 0), some (.if_icmp .eq 87, 3, [121], 0, 0), none, none, some (.iload 5, 2, [5], 0, 0), none, some (.iconst (-1), 1, [], (-1), 0), some (.if_icmp .ne 6, 3, [46], 0, 0), none, none, some (.goto 78, 3, [121], 0, 0), none, none, some (.aload_n 0, 1, [0], 0, 0), some (.dup, 1, [], 0, 0), some (.getfield 427, 3, [12, 67, 0], 0, 0), none, none, some (.iconst 1, 1, [], 1, 0), some (.iload_n 3, 1, [3], 0, 0), some (.ishl, 1, [], 0, 0), some (.ior, 1, [], 0, 0), some (.putfield 427, 3, [12, 67, 0], 0, 0), none, none, some (.aload_n 0, 1, [0], 0, 0), some (.iload 5, 2, [5], 0, 0), none, some (.invokevirtual 384, 3, [0, 216, 2, 0], 0, 0), none, none],
  [some (.aload_n 0, 1, [0], 0, 0), some (.iload 4, 2, [4], 0, 0), none, some (.invokevirtual 384, 3, [0, 216, 2, 0], 0, 0), none, none, some (.isub, 1, [], 0, 0), some (.istore 6, 2, [6], 0, 0), none, some (.aload_n 0, 1, [0], 0, 0), some (.getfield 135, 3, [12, 69, 2, 1, 8, 36], 0, 0), none, none, some (.iload_n 3, 1, [3], 0, 0), some (.iload 6, 2, [6], 0, 0), none, some (.aload_n 0, 1, [0], 0, 0), some (.getfield 114, 3, [12, 55, 2, 1, 160, 30], 0, 0), none, none, some (.iload 4, 2, [4], 0, 0), none, some (.iaload, 1, [], 0, 0), some (.isub, 1, [], 0, 0), some (.aload_n 0, 1, [0], 0, 0), some (.getfield 114, 3, [12, 55, 2, 1, 160, 30], 0, 0), none, none, some (.iload 5, 2, [5], 0, 0), none, some (.iaload, 1, [], 0, 0), some (.isub, 1, [], 0, 0)],
  [some (.iastore, 1, [], 0, 0), some (.aload_n 0, 1, [0], 0, 0), some (.getfield 138, 3, [12, 70, 2, 1, 8, 37], 0, 0), none, none, some (.iload_n 3, 1, [3], 0, 0), some (.iload 6, 2, [6], 0, 0), none, some (.aload_n 0, 1, [0], 0, 0), some (.getfield 114, 3, [12, 55, 2, 1, 160, 30], 0, 0), none, none, some (.iload 4, 2, [4], 0, 0), none, some (.iaload, 1, [], 0, 0), some (.iadd, 1, [], 0, 0), some (.aload_n 0, 1, [0], 0, 0), some (.getfield 114, 3, [12, 55, 2, 1, 160, 30], 0, 0), none, none, some (.iload 5, 2, [5], 0, 0), none, some (.iaload, 1, [], 0, 0), some (.iadd, 1, [], 0, 0), some (.iastore, 1, [], 0, 0), some (.iinc 3 1, 3, [3], 1, 0), none, none, some (.goto (-117), 3, [7], 0, 0), none, none, some (.return_, 1, [], 0, 0)]]
def F_M_see_7 (N : Nat) (bk : (Int32 → Int32 → Int32 → MH → Option (MH))) (a1 : Int32) (a2 : Int32) (a3 : Int32) (h : MH) : Option (MH) :=
  if (gI h 68 33) ≤ a3 then
  (some h)
  else
  ((f_M_rowOf N a3 a1 h).bind (fun x2 =>
  (f_M_rowOf N a3 a2 x2.2).bind (fun x3 =>
  if x2.1 = ((-1)) then
  (let v4 : Int32 := a3 + 1
  bk a1 a2 v4 x3.2)
  else
  (if x3.1 = ((-1)) then
  (let v5 : Int32 := a3 + 1
  bk a1 a2 v5 x3.2)
  else
  (let h6 : MH := sI x3.2 68 67 ((gI x3.2 68 67) ||| ((1 : Int32) <<< (a3 &&& 31)))
  (f_M_valueOf N x3.1 h6).bind (fun x7 =>
  (f_M_valueOf N x2.1 x7.2).bind (fun x8 =>
  let v9 : Int32 := x7.1 - x8.1
  if inB x2.1 160 = true then
  (if inB x3.1 160 = true then
  (if inB a3 8 = true then
  (let h10 : MH := sI x8.2 104 (iN a3) ((v9 - (gI x8.2 98 (iN x2.1))) - (gI x8.2 98 (iN x3.1)))
  if inB x2.1 160 = true then
  (if inB x3.1 160 = true then
  (if inB a3 8 = true then
  (let h11 : MH := sI h10 105 (iN a3) ((v9 + (gI h10 98 (iN x2.1))) + (gI h10 98 (iN x3.1)))
  let v12 : Int32 := a3 + 1
  bk a1 a2 v12 h11)
  else none)
  else none)
  else none)
  else none)
  else none)
  else none)))))))
def F_M_see_0 (N : Nat) (bk : (Int32 → Int32 → Int32 → MH → Option (MH))) (a1 : Int32) (a2 : Int32) (h : MH) : Option (MH) :=
  let h1 : MH := sI h 68 67 0
  F_M_see_7 N bk a1 a2 0 h1
def L_M_see (N : Nat) : Nat → (Int32 → Int32 → Int32 → MH → Option (MH))
  | 0 => fun _ _ _ _ => none
  | n + 1 => F_M_see_7 N (L_M_see N n)
def f_M_see (N : Nat) (a1 : Int32) (a2 : Int32) (h : MH) : Option (MH) := F_M_see_0 N (L_M_see N N) a1 a2 h
def C_M_see (N : Nat) : MC := (KDL, false, (fun _ => 0), jsB, (fun j => match Nat.beq j 215 with
    | true => w_M_rowOf (f_M_rowOf N)
    | false => match Nat.beq j 216 with
    | true => w_M_valueOf (f_M_valueOf N)
    | false => fun _ _ => none), (fun _ _ _ => none), (fun _ _ _ => none), (fun _ _ _ => none))
def D_M_see (N : Nat) (n pc : Nat) (lv : ML) (st : List MV) (h : MH) : Option (MH) :=
  match Nat.beq pc 0 with
  | true => (match lk lv 0, lk lv 1, lk lv 2, st with
    | some (.inr (.inr (0, 12, 68))), some (.inl a1), some (.inl a2), [] => F_M_see_0 N (L_M_see N n) a1 a2 h
    | _, _, _, _ => none)
  | false => match Nat.beq pc 7 with
  | true => (match lk lv 0, lk lv 1, lk lv 2, lk lv 3, st with
    | some (.inr (.inr (0, 12, 68))), some (.inl a1), some (.inl a2), some (.inl a3), [] => F_M_see_7 N (L_M_see N n) a1 a2 a3 h
    | _, _, _, _, _ => none)
  | false => none
def B_M_see (N : Nat) (n pc : Nat) (lv : ML) (st : List MV) (h : MH) : Option (MH) :=
  match Nat.beq pc 7 with
  | true => (match lk lv 0, lk lv 1, lk lv 2, lk lv 3, st with
    | some (.inr (.inr (0, 12, 68))), some (.inl a1), some (.inl a2), some (.inl a3), [] => ((L_M_see N n)) a1 a2 a3 h
    | _, _, _, _, _ => none)
  | false => none
set_option maxRecDepth 1000000 in
theorem E_M_see_0 (N : Nat) (n : Nat) (a1 : Int32) (a2 : Int32) (h : MH) : seg (C_M_see N) 7 0 rV T_M_see [0, 7] (fun q lv st h => match Nat.ble 1 q with
    | true => D_M_see N n q lv st h
    | false => B_M_see N n q lv st h) 400 true 0 [(0, .inr (.inr (0, 12, 68))), (1, .inl a1), (2, .inl a2)] [] h = F_M_see_0 N (L_M_see N n) a1 a2 h := (rfl)
set_option maxRecDepth 1000000 in
theorem E_M_see_7 (N : Nat) (n : Nat) (a1 : Int32) (a2 : Int32) (a3 : Int32) (h : MH) : seg (C_M_see N) 7 0 rV T_M_see [0, 7] (fun q lv st h => match Nat.ble 8 q with
    | true => D_M_see N n q lv st h
    | false => B_M_see N n q lv st h) 400 true 7 [(0, .inr (.inr (0, 12, 68))), (1, .inl a1), (2, .inl a2), (3, .inl a3)] [] h = F_M_see_7 N (L_M_see N n) a1 a2 a3 h := (rfl)
set_option maxRecDepth 1000000 in
theorem chk_M_see : chkT 12 false prog_14_method_65_code T_M_see = true := by decide +kernel
theorem mc_M_see : mC 227 = prog_14_method_65_code := by rfl
theorem mx_M_see : mL 227 = 7 ∧ mR 227 = none ∧ mK 227 = 1 ∧ (mN 227).cls = cN 12 := by decide +kernel
theorem hD_M_see (N : Nat) {r : MH} : ∀ n pc lv st h, D_M_see N n pc lv st h = some r → ∃ lv', (∀ q ∈ lv', q ∈ lv) ∧ seg (C_M_see N) 7 0 rV T_M_see [0, 7] (fun q lv st h => match Nat.ble (pc + 1) q with
    | true => D_M_see N n q lv st h
    | false => B_M_see N n q lv st h) 400 true pc lv' st h = some r := by
  intro n pc lv st h hf
  unfold D_M_see at hf
  split at hf
  · rename_i hb
    have hb := Nat.eq_of_beq_eq_true hb
    subst hb
    split at hf
    · rename_i y0 y1 e0 e1 e2
      exact ⟨_, (sub_cons e0 (sub_cons e1 (sub_cons e2 sub_nil))), (E_M_see_0 N n _ _ h).trans hf⟩
    · cases hf
  · skip
    split at hf
    · rename_i hb
      have hb := Nat.eq_of_beq_eq_true hb
      subst hb
      split at hf
      · rename_i y0 y1 y2 e0 e1 e2 e3
        exact ⟨_, (sub_cons e0 (sub_cons e1 (sub_cons e2 (sub_cons e3 sub_nil)))), (E_M_see_7 N n _ _ _ h).trans hf⟩
      · cases hf
    · skip
      cases hf
theorem hM_M_see (N : Nat) {r : MH} : ∀ n pc lv st h, D_M_see N n pc lv st h = some r → pc < 128 := by
  intro n pc lv st h hf
  unfold D_M_see at hf
  split at hf
  · rename_i hb
    rw [Nat.eq_of_beq_eq_true hb]
    decide
  · skip
    split at hf
    · rename_i hb
      rw [Nat.eq_of_beq_eq_true hb]
      decide
    · skip
      cases hf
theorem hB_M_see (N : Nat) {r : MH} : ∀ n pc lv st h, B_M_see N n pc lv st h = some r → ∃ k, n = k + 1 ∧ D_M_see N k pc lv st h = some r := by
  intro n pc lv st h hf
  unfold B_M_see at hf
  split at hf
  · rename_i hb
    have hb := Nat.eq_of_beq_eq_true hb
    subst hb
    cases n with
    | zero =>
      split at hf
      · cases hf
      · cases hf
    | succ k =>
      refine ⟨k, rfl, ?_⟩
      exact hf
  · skip
    cases hf
theorem s_M_see {l : Launch} {E : EV} {N : Nat} {as : List MV} {h : MH} {r : MH} (hf : w_M_see (f_M_see N) as h = some r) : SndM l E false 1 227 as h none r := by
  unfold w_M_see at hf
  split at hf
  · obtain ⟨m1, m2, m3, m4⟩ := mx_M_see
    refine snd_of (C := C_M_see N) (own := 12) (rz := 0) (lim := 115) rV_eq m2 m4 pl_227 (TB_in _ cw_227 rfl) ⟨(fun _ => ⟨_, _, _, _, _, _, rfl, rfl, by rw [m4]; rfl⟩), (fun z => by rw [m3] at z; cases z)⟩ (fun z => by cases z) KDL_take rfl rfl (fun z => by cases z) (fun z => by cases z) (fun _ => rfl) (by rw [m1]; exact Nat.le_of_ble_eq_true rfl)
      (fun j as h x z => by
      dsimp only [C_M_see] at z
      cases hb : Nat.beq j 215 with
      | true =>
        have hb := Nat.eq_of_beq_eq_true hb
        subst hb
        exact ⟨0, by decide, (fun z => by cases z), s_M_rowOf z⟩
      | false =>
        rw [hb] at z
        dsimp only at z
        cases hb : Nat.beq j 216 with
        | true =>
          have hb := Nat.eq_of_beq_eq_true hb
          subst hb
          exact ⟨0, by decide, (fun z => by cases z), s_M_valueOf z⟩
        | false =>
          rw [hb] at z
          dsimp only at z
          cases z)
      (fun _ _ _ _ z => by cases z)
      (fun _ _ _ _ z => by cases z)
      (fun _ _ _ _ z => by cases z)
      (fun p e R s m args below meth c Q n0 F hret => ?_)
    rw [m1] at F hret ⊢
    rw [mc_M_see] at F hret
    exact cuts_s (K := 400) (M := 128) (D := D_M_see N) (B := B_M_see N) F hret (chkT_ok chk_M_see) (hM_M_see N) (hB_M_see N) (hD_M_see N) N 0 _ _ _ hf
  · cases hf
def T_M_rowsOfSlips : List (List (Option RW)) := [
  [some (.iconst 1, 1, [], 1, 0), some (.istore_n 1, 1, [1], 0, 0), some (.iconst 0, 1, [], 0, 0), some (.istore_n 2, 1, [2], 0, 0), some (.iload_n 2, 1, [2], 0, 0), some (.aload_n 0, 1, [0], 0, 0), some (.getfield 348, 3, [12, 32, 0], 0, 0), none, none, some (.if_icmp .ge 14, 3, [23], 0, 0), none, none, some (.iload_n 1, 1, [1], 0, 0), some (.bipush 10, 2, [], 10, 0), none, some (.imul, 1, [], 0, 0), some (.istore_n 1, 1, [1], 0, 0), some (.iinc 2 1, 3, [2], 1, 0), none, none, some (.goto (-16), 3, [4], 0, 0), none, none, some (.iload_n 1, 1, [1], 0, 0), some (.ireturn, 1, [], 0, 0)]]
def F_M_rowsOfSlips_4 (N : Nat) (bk : (Int32 → Int32 → MH → Option (Int32 × MH))) (a1 : Int32) (a2 : Int32) (h : MH) : Option (Int32 × MH) :=
  if (gI h 68 32) ≤ a2 then
  (some (a1, h))
  else
  (let v1 : Int32 := a1 * 10
  let v2 : Int32 := a2 + 1
  bk v1 v2 h)
def F_M_rowsOfSlips_0 (N : Nat) (bk : (Int32 → Int32 → MH → Option (Int32 × MH))) (h : MH) : Option (Int32 × MH) :=
  F_M_rowsOfSlips_4 N bk 1 0 h
def L_M_rowsOfSlips (N : Nat) : Nat → (Int32 → Int32 → MH → Option (Int32 × MH))
  | 0 => fun _ _ _ => none
  | n + 1 => F_M_rowsOfSlips_4 N (L_M_rowsOfSlips N n)
def f_M_rowsOfSlips (N : Nat) (h : MH) : Option (Int32 × MH) := F_M_rowsOfSlips_0 N (L_M_rowsOfSlips N N) h
def C_M_rowsOfSlips (N : Nat) : MC := (KDL, false, (fun _ => 0), jsB, (fun _ _ _ => none), (fun _ _ _ => none), (fun _ _ _ => none), (fun _ _ _ => none))
def D_M_rowsOfSlips (N : Nat) (n pc : Nat) (lv : ML) (st : List MV) (h : MH) : Option (Int32 × MH) :=
  match Nat.beq pc 0 with
  | true => (match lk lv 0, st with
    | some (.inr (.inr (0, 12, 68))), [] => F_M_rowsOfSlips_0 N (L_M_rowsOfSlips N n) h
    | _, _ => none)
  | false => match Nat.beq pc 4 with
  | true => (match lk lv 0, lk lv 1, lk lv 2, st with
    | some (.inr (.inr (0, 12, 68))), some (.inl a1), some (.inl a2), [] => F_M_rowsOfSlips_4 N (L_M_rowsOfSlips N n) a1 a2 h
    | _, _, _, _ => none)
  | false => none
def B_M_rowsOfSlips (N : Nat) (n pc : Nat) (lv : ML) (st : List MV) (h : MH) : Option (Int32 × MH) :=
  match Nat.beq pc 4 with
  | true => (match lk lv 0, lk lv 1, lk lv 2, st with
    | some (.inr (.inr (0, 12, 68))), some (.inl a1), some (.inl a2), [] => ((L_M_rowsOfSlips N n)) a1 a2 h
    | _, _, _, _ => none)
  | false => none
set_option maxRecDepth 1000000 in
theorem E_M_rowsOfSlips_0 (N : Nat) (n : Nat) (h : MH) : seg (C_M_rowsOfSlips N) 3 0 rI T_M_rowsOfSlips [0, 4] (fun q lv st h => match Nat.ble 1 q with
    | true => D_M_rowsOfSlips N n q lv st h
    | false => B_M_rowsOfSlips N n q lv st h) 400 true 0 [(0, .inr (.inr (0, 12, 68)))] [] h = F_M_rowsOfSlips_0 N (L_M_rowsOfSlips N n) h := (rfl)
set_option maxRecDepth 1000000 in
theorem E_M_rowsOfSlips_4 (N : Nat) (n : Nat) (a1 : Int32) (a2 : Int32) (h : MH) : seg (C_M_rowsOfSlips N) 3 0 rI T_M_rowsOfSlips [0, 4] (fun q lv st h => match Nat.ble 5 q with
    | true => D_M_rowsOfSlips N n q lv st h
    | false => B_M_rowsOfSlips N n q lv st h) 400 true 4 [(0, .inr (.inr (0, 12, 68))), (1, .inl a1), (2, .inl a2)] [] h = F_M_rowsOfSlips_4 N (L_M_rowsOfSlips N n) a1 a2 h := (rfl)
set_option maxRecDepth 1000000 in
theorem chk_M_rowsOfSlips : chkT 12 false prog_14_method_66_code T_M_rowsOfSlips = true := by decide +kernel
theorem mc_M_rowsOfSlips : mC 228 = prog_14_method_66_code := by rfl
theorem mx_M_rowsOfSlips : mL 228 = 3 ∧ mR 228 = some .int ∧ mK 228 = 1 ∧ (mN 228).cls = cN 12 := by decide +kernel
theorem hD_M_rowsOfSlips (N : Nat) {r : Int32 × MH} : ∀ n pc lv st h, D_M_rowsOfSlips N n pc lv st h = some r → ∃ lv', (∀ q ∈ lv', q ∈ lv) ∧ seg (C_M_rowsOfSlips N) 3 0 rI T_M_rowsOfSlips [0, 4] (fun q lv st h => match Nat.ble (pc + 1) q with
    | true => D_M_rowsOfSlips N n q lv st h
    | false => B_M_rowsOfSlips N n q lv st h) 400 true pc lv' st h = some r := by
  intro n pc lv st h hf
  unfold D_M_rowsOfSlips at hf
  split at hf
  · rename_i hb
    have hb := Nat.eq_of_beq_eq_true hb
    subst hb
    split at hf
    · rename_i e0
      exact ⟨_, (sub_cons e0 sub_nil), (E_M_rowsOfSlips_0 N n h).trans hf⟩
    · cases hf
  · skip
    split at hf
    · rename_i hb
      have hb := Nat.eq_of_beq_eq_true hb
      subst hb
      split at hf
      · rename_i y0 y1 e0 e1 e2
        exact ⟨_, (sub_cons e0 (sub_cons e1 (sub_cons e2 sub_nil))), (E_M_rowsOfSlips_4 N n _ _ h).trans hf⟩
      · cases hf
    · skip
      cases hf
theorem hM_M_rowsOfSlips (N : Nat) {r : Int32 × MH} : ∀ n pc lv st h, D_M_rowsOfSlips N n pc lv st h = some r → pc < 25 := by
  intro n pc lv st h hf
  unfold D_M_rowsOfSlips at hf
  split at hf
  · rename_i hb
    rw [Nat.eq_of_beq_eq_true hb]
    decide
  · skip
    split at hf
    · rename_i hb
      rw [Nat.eq_of_beq_eq_true hb]
      decide
    · skip
      cases hf
theorem hB_M_rowsOfSlips (N : Nat) {r : Int32 × MH} : ∀ n pc lv st h, B_M_rowsOfSlips N n pc lv st h = some r → ∃ k, n = k + 1 ∧ D_M_rowsOfSlips N k pc lv st h = some r := by
  intro n pc lv st h hf
  unfold B_M_rowsOfSlips at hf
  split at hf
  · rename_i hb
    have hb := Nat.eq_of_beq_eq_true hb
    subst hb
    cases n with
    | zero =>
      split at hf
      · cases hf
      · cases hf
    | succ k =>
      refine ⟨k, rfl, ?_⟩
      exact hf
  · skip
    cases hf
theorem s_M_rowsOfSlips {l : Launch} {E : EV} {N : Nat} {as : List MV} {h : MH} {r : Int32 × MH} (hf : w_M_rowsOfSlips (f_M_rowsOfSlips N) as h = some r) : SndM l E false 0 228 as h (some (.inl r.1)) r.2 := by
  unfold w_M_rowsOfSlips at hf
  split at hf
  · obtain ⟨m1, m2, m3, m4⟩ := mx_M_rowsOfSlips
    refine snd_of (C := C_M_rowsOfSlips N) (own := 12) (rz := 0) (lim := 115) rI_eq m2 m4 pl_228 (TB_in _ cw_228 rfl) ⟨(fun _ => ⟨_, _, _, _, _, _, rfl, rfl, by rw [m4]; rfl⟩), (fun z => by rw [m3] at z; cases z)⟩ (fun z => by cases z) KDL_take rfl rfl (fun z => by cases z) (fun z => by cases z) (fun _ => rfl) (by rw [m1]; exact Nat.le_of_ble_eq_true rfl)
      (fun _ _ _ _ z => by cases z)
      (fun _ _ _ _ z => by cases z)
      (fun _ _ _ _ z => by cases z)
      (fun _ _ _ _ z => by cases z)
      (fun p e R s m args below meth c Q n0 F hret => ?_)
    rw [m1] at F hret ⊢
    rw [mc_M_rowsOfSlips] at F hret
    exact cuts_s (K := 400) (M := 25) (D := D_M_rowsOfSlips N) (B := B_M_rowsOfSlips N) F hret (chkT_ok chk_M_rowsOfSlips) (hM_M_rowsOfSlips N) (hB_M_rowsOfSlips N) (hD_M_rowsOfSlips N) N 0 _ _ _ hf
  · cases hf
def T_M_lay : List (List (Option RW)) := [
  [some (.iload_n 1, 1, [1], 0, 0), some (.istore_n 2, 1, [2], 0, 0), some (.aload_n 0, 1, [0], 0, 0), some (.getfield 348, 3, [12, 32, 0], 0, 0), none, none, some (.iconst 1, 1, [], 1, 0), some (.isub, 1, [], 0, 0), some (.istore_n 3, 1, [3], 0, 0), some (.iload_n 3, 1, [3], 0, 0), some (.ifCond .lt 24, 3, [34], 0, 0), none, none, some (.aload_n 0, 1, [0], 0, 0), some (.getfield 132, 3, [12, 68, 2, 1, 6, 35], 0, 0), none, none, some (.iload_n 3, 1, [3], 0, 0), some (.iload_n 2, 1, [2], 0, 0), some (.bipush 10, 2, [], 10, 0), none, some (.irem, 1, [], 0, 0), some (.iastore, 1, [], 0, 0), some (.iload_n 2, 1, [2], 0, 0), some (.bipush 10, 2, [], 10, 0), none, some (.idiv, 1, [], 0, 0), some (.istore_n 2, 1, [2], 0, 0), some (.iinc 3 (-1), 3, [3], (-1), 0), none, none, some (.goto (-22), 3, [9], 0, 0)],
  [none, none, some (.return_, 1, [], 0, 0)]]
def F_M_lay_9 (N : Nat) (bk : (Int32 → Int32 → MH → Option (MH))) (a2 : Int32) (a3 : Int32) (h : MH) : Option (MH) :=
  if a3 < 0 then
  (some h)
  else
  (if 10 = 0 then none else
  if inB a3 6 = true then
  (let h2 : MH := sI h 103 (iN a3) (a2 - a2 / 10 * 10)
  if 10 = 0 then none else
  let v3 : Int32 := a2 / 10
  let v4 : Int32 := a3 + (-1)
  bk v3 v4 h2)
  else none)
def F_M_lay_0 (N : Nat) (bk : (Int32 → Int32 → MH → Option (MH))) (a1 : Int32) (h : MH) : Option (MH) :=
  let v1 : Int32 := (gI h 68 32) - 1
  F_M_lay_9 N bk a1 v1 h
def L_M_lay (N : Nat) : Nat → (Int32 → Int32 → MH → Option (MH))
  | 0 => fun _ _ _ => none
  | n + 1 => F_M_lay_9 N (L_M_lay N n)
def f_M_lay (N : Nat) (a1 : Int32) (h : MH) : Option (MH) := F_M_lay_0 N (L_M_lay N N) a1 h
def C_M_lay (N : Nat) : MC := (KDL, false, (fun _ => 0), jsB, (fun _ _ _ => none), (fun _ _ _ => none), (fun _ _ _ => none), (fun _ _ _ => none))
def D_M_lay (N : Nat) (n pc : Nat) (lv : ML) (st : List MV) (h : MH) : Option (MH) :=
  match Nat.beq pc 0 with
  | true => (match lk lv 0, lk lv 1, st with
    | some (.inr (.inr (0, 12, 68))), some (.inl a1), [] => F_M_lay_0 N (L_M_lay N n) a1 h
    | _, _, _ => none)
  | false => match Nat.beq pc 9 with
  | true => (match lk lv 0, lk lv 2, lk lv 3, st with
    | some (.inr (.inr (0, 12, 68))), some (.inl a2), some (.inl a3), [] => F_M_lay_9 N (L_M_lay N n) a2 a3 h
    | _, _, _, _ => none)
  | false => none
def B_M_lay (N : Nat) (n pc : Nat) (lv : ML) (st : List MV) (h : MH) : Option (MH) :=
  match Nat.beq pc 9 with
  | true => (match lk lv 0, lk lv 2, lk lv 3, st with
    | some (.inr (.inr (0, 12, 68))), some (.inl a2), some (.inl a3), [] => ((L_M_lay N n)) a2 a3 h
    | _, _, _, _ => none)
  | false => none
set_option maxRecDepth 1000000 in
theorem E_M_lay_0 (N : Nat) (n : Nat) (a1 : Int32) (h : MH) : seg (C_M_lay N) 4 0 rV T_M_lay [0, 9] (fun q lv st h => match Nat.ble 1 q with
    | true => D_M_lay N n q lv st h
    | false => B_M_lay N n q lv st h) 400 true 0 [(0, .inr (.inr (0, 12, 68))), (1, .inl a1)] [] h = F_M_lay_0 N (L_M_lay N n) a1 h := (rfl)
set_option maxRecDepth 1000000 in
theorem E_M_lay_9 (N : Nat) (n : Nat) (a2 : Int32) (a3 : Int32) (h : MH) : seg (C_M_lay N) 4 0 rV T_M_lay [0, 9] (fun q lv st h => match Nat.ble 10 q with
    | true => D_M_lay N n q lv st h
    | false => B_M_lay N n q lv st h) 400 true 9 [(0, .inr (.inr (0, 12, 68))), (2, .inl a2), (3, .inl a3)] [] h = F_M_lay_9 N (L_M_lay N n) a2 a3 h := (rfl)
set_option maxRecDepth 1000000 in
theorem chk_M_lay : chkT 12 false prog_14_method_67_code T_M_lay = true := by decide +kernel
theorem mc_M_lay : mC 229 = prog_14_method_67_code := by rfl
theorem mx_M_lay : mL 229 = 4 ∧ mR 229 = none ∧ mK 229 = 1 ∧ (mN 229).cls = cN 12 := by decide +kernel
theorem hD_M_lay (N : Nat) {r : MH} : ∀ n pc lv st h, D_M_lay N n pc lv st h = some r → ∃ lv', (∀ q ∈ lv', q ∈ lv) ∧ seg (C_M_lay N) 4 0 rV T_M_lay [0, 9] (fun q lv st h => match Nat.ble (pc + 1) q with
    | true => D_M_lay N n q lv st h
    | false => B_M_lay N n q lv st h) 400 true pc lv' st h = some r := by
  intro n pc lv st h hf
  unfold D_M_lay at hf
  split at hf
  · rename_i hb
    have hb := Nat.eq_of_beq_eq_true hb
    subst hb
    split at hf
    · rename_i y0 e0 e1
      exact ⟨_, (sub_cons e0 (sub_cons e1 sub_nil)), (E_M_lay_0 N n _ h).trans hf⟩
    · cases hf
  · skip
    split at hf
    · rename_i hb
      have hb := Nat.eq_of_beq_eq_true hb
      subst hb
      split at hf
      · rename_i y0 y1 e0 e1 e2
        exact ⟨_, (sub_cons e0 (sub_cons e1 (sub_cons e2 sub_nil))), (E_M_lay_9 N n _ _ h).trans hf⟩
      · cases hf
    · skip
      cases hf
theorem hM_M_lay (N : Nat) {r : MH} : ∀ n pc lv st h, D_M_lay N n pc lv st h = some r → pc < 35 := by
  intro n pc lv st h hf
  unfold D_M_lay at hf
  split at hf
  · rename_i hb
    rw [Nat.eq_of_beq_eq_true hb]
    decide
  · skip
    split at hf
    · rename_i hb
      rw [Nat.eq_of_beq_eq_true hb]
      decide
    · skip
      cases hf
theorem hB_M_lay (N : Nat) {r : MH} : ∀ n pc lv st h, B_M_lay N n pc lv st h = some r → ∃ k, n = k + 1 ∧ D_M_lay N k pc lv st h = some r := by
  intro n pc lv st h hf
  unfold B_M_lay at hf
  split at hf
  · rename_i hb
    have hb := Nat.eq_of_beq_eq_true hb
    subst hb
    cases n with
    | zero =>
      split at hf
      · cases hf
      · cases hf
    | succ k =>
      refine ⟨k, rfl, ?_⟩
      exact hf
  · skip
    cases hf
theorem s_M_lay {l : Launch} {E : EV} {N : Nat} {as : List MV} {h : MH} {r : MH} (hf : w_M_lay (f_M_lay N) as h = some r) : SndM l E false 0 229 as h none r := by
  unfold w_M_lay at hf
  split at hf
  · obtain ⟨m1, m2, m3, m4⟩ := mx_M_lay
    refine snd_of (C := C_M_lay N) (own := 12) (rz := 0) (lim := 115) rV_eq m2 m4 pl_229 (TB_in _ cw_229 rfl) ⟨(fun _ => ⟨_, _, _, _, _, _, rfl, rfl, by rw [m4]; rfl⟩), (fun z => by rw [m3] at z; cases z)⟩ (fun z => by cases z) KDL_take rfl rfl (fun z => by cases z) (fun z => by cases z) (fun _ => rfl) (by rw [m1]; exact Nat.le_of_ble_eq_true rfl)
      (fun _ _ _ _ z => by cases z)
      (fun _ _ _ _ z => by cases z)
      (fun _ _ _ _ z => by cases z)
      (fun _ _ _ _ z => by cases z)
      (fun p e R s m args below meth c Q n0 F hret => ?_)
    rw [m1] at F hret ⊢
    rw [mc_M_lay] at F hret
    exact cuts_s (K := 400) (M := 35) (D := D_M_lay N) (B := B_M_lay N) F hret (chkT_ok chk_M_lay) (hM_M_lay N) (hB_M_lay N) (hD_M_lay N) N 0 _ _ _ hf
  · cases hf
def T_Math_abs_I : List (List (Option RW)) := [
  [some (.iload_n 0, 1, [0], 0, 0), some (.ifCond .ge 8, 3, [9], 0, 0), none, none, some (.iload_n 0, 1, [0], 0, 0), some (.ineg, 1, [], 0, 0), some (.goto 4, 3, [10], 0, 0), none, none, some (.iload_n 0, 1, [0], 0, 0), some (.ireturn, 1, [], 0, 0)]]
def f_Math_abs_I (N : Nat) (a0 : Int32) (h : MH) : Option (Int32 × MH) :=
  if 0 ≤ a0 then
  (some (a0, h))
  else
  (some (-a0, h))
def C_Math_abs_I (N : Nat) : MC := (KDL, false, (fun _ => 0), jsB, (fun _ _ _ => none), (fun _ _ _ => none), (fun _ _ _ => none), (fun _ _ _ => none))
def D_Math_abs_I (N : Nat) (n pc : Nat) (lv : ML) (st : List MV) (h : MH) : Option (Int32 × MH) :=
  match Nat.beq pc 0 with
  | true => (match lk lv 0, st with
    | some (.inl a0), [] => f_Math_abs_I N a0 h
    | _, _ => none)
  | false => none
set_option maxRecDepth 1000000 in
theorem E_Math_abs_I_0 (N : Nat) (n : Nat) (a0 : Int32) (h : MH) : seg (C_Math_abs_I N) 1 0 rI T_Math_abs_I [0] (fun q lv st h => match Nat.ble 1 q with
    | true => D_Math_abs_I N n q lv st h
    | false => none) 400 true 0 [(0, .inl a0)] [] h = f_Math_abs_I N a0 h := (rfl)
set_option maxRecDepth 1000000 in
theorem chk_Math_abs_I : chkT 16 false prog_17_method_59_code T_Math_abs_I = true := by decide +kernel
theorem mc_Math_abs_I : mC 258 = prog_17_method_59_code := by rfl
theorem mx_Math_abs_I : mL 258 = 1 ∧ mR 258 = some .int ∧ mK 258 = 0 ∧ (mN 258).cls = cN 16 := by decide +kernel
theorem hD_Math_abs_I (N : Nat) {r : Int32 × MH} : ∀ n pc lv st h, D_Math_abs_I N n pc lv st h = some r → ∃ lv', (∀ q ∈ lv', q ∈ lv) ∧ seg (C_Math_abs_I N) 1 0 rI T_Math_abs_I [0] (fun q lv st h => match Nat.ble (pc + 1) q with
    | true => D_Math_abs_I N n q lv st h
    | false => none) 400 true pc lv' st h = some r := by
  intro n pc lv st h hf
  unfold D_Math_abs_I at hf
  split at hf
  · rename_i hb
    have hb := Nat.eq_of_beq_eq_true hb
    subst hb
    split at hf
    · rename_i y0 e0
      exact ⟨_, (sub_cons e0 sub_nil), (E_Math_abs_I_0 N n _ h).trans hf⟩
    · cases hf
  · skip
    cases hf
theorem hM_Math_abs_I (N : Nat) {r : Int32 × MH} : ∀ n pc lv st h, D_Math_abs_I N n pc lv st h = some r → pc < 11 := by
  intro n pc lv st h hf
  unfold D_Math_abs_I at hf
  split at hf
  · rename_i hb
    rw [Nat.eq_of_beq_eq_true hb]
    decide
  · skip
    cases hf
theorem s_Math_abs_I {l : Launch} {E : EV} {N : Nat} {as : List MV} {h : MH} {r : Int32 × MH} (hf : w_Math_abs_I (f_Math_abs_I N) as h = some r) : SndM l E false 0 258 as h (some (.inl r.1)) r.2 := by
  unfold w_Math_abs_I at hf
  split at hf
  · obtain ⟨m1, m2, m3, m4⟩ := mx_Math_abs_I
    refine snd_of (C := C_Math_abs_I N) (own := 16) (rz := 0) (lim := 115) rI_eq m2 m4 pl_258 (TB_in _ cw_258 rfl) ⟨(fun z => by rw [m3] at z; cases z), (fun z => by rw [m3] at z; cases z)⟩ (fun z => by cases z) KDL_take rfl rfl (fun z => by cases z) (fun z => by cases z) (fun _ => rfl) (by rw [m1]; exact Nat.le_of_ble_eq_true rfl)
      (fun _ _ _ _ z => by cases z)
      (fun _ _ _ _ z => by cases z)
      (fun _ _ _ _ z => by cases z)
      (fun _ _ _ _ z => by cases z)
      (fun p e R s m args below meth c Q n0 F hret => ?_)
    rw [m1] at F hret ⊢
    rw [mc_Math_abs_I] at F hret
    exact cuts_s (K := 400) (M := 11) (D := D_Math_abs_I N) (B := fun _ _ _ _ _ => none) F hret (chkT_ok chk_Math_abs_I) (hM_Math_abs_I N) (fun _ _ _ _ _ z => by cases z) (hD_Math_abs_I N) N 0 _ _ _ hf
  · cases hf
def T_M_bend : List (List (Option RW)) := [
  [some (.iconst 0, 1, [], 0, 0), some (.istore_n 1, 1, [1], 0, 0), some (.iconst 0, 1, [], 0, 0), some (.istore_n 2, 1, [2], 0, 0), some (.iload_n 2, 1, [2], 0, 0), some (.aload_n 0, 1, [0], 0, 0), some (.getfield 348, 3, [12, 32, 0], 0, 0), none, none, some (.if_icmp .ge 57, 3, [66], 0, 0), none, none, some (.iconst 0, 1, [], 0, 0), some (.istore_n 3, 1, [3], 0, 0), some (.iload_n 3, 1, [3], 0, 0), some (.iload_n 2, 1, [2], 0, 0), some (.if_icmp .ge 44, 3, [60], 0, 0), none, none, some (.aload_n 0, 1, [0], 0, 0), some (.getfield 84, 3, [12, 38, 2, 4, 36, 21], 0, 0), none, none, some (.bipush 6, 2, [], 6, 0), none, some (.iload_n 2, 1, [2], 0, 0), some (.imul, 1, [], 0, 0), some (.iload_n 3, 1, [3], 0, 0), some (.iadd, 1, [], 0, 0), some (.baload, 1, [], 0, 0), some (.ifCond .eq 24, 3, [54], 0, 0), none],
  [none, some (.iload_n 1, 1, [1], 0, 0), some (.aload_n 0, 1, [0], 0, 0), some (.getfield 132, 3, [12, 68, 2, 1, 6, 35], 0, 0), none, none, some (.iload_n 2, 1, [2], 0, 0), some (.iaload, 1, [], 0, 0), some (.aload_n 0, 1, [0], 0, 0), some (.getfield 132, 3, [12, 68, 2, 1, 6, 35], 0, 0), none, none, some (.iload_n 3, 1, [3], 0, 0), some (.iaload, 1, [], 0, 0), some (.isub, 1, [], 0, 0), some (.invokestatic 430, 3, [2, 258, 1, 0], 0, 0), none, none, some (.invokestatic 433, 3, [2, 260, 2, 0], 0, 0), none, none, some (.istore_n 1, 1, [1], 0, 0), some (.iinc 3 1, 3, [3], 1, 0), none, none, some (.goto (-43), 3, [14], 0, 0), none, none, some (.iinc 2 1, 3, [2], 1, 0), none, none, some (.goto (-59), 3, [4], 0, 0)],
  [none, none, some (.iload_n 1, 1, [1], 0, 0), some (.ireturn, 1, [], 0, 0)]]
def F_M_bend_14 (N : Nat) (bk : (Int32 → Int32 → MH → Option (Int32 × MH)) × (Int32 → Int32 → Int32 → MH → Option (Int32 × MH))) (a1 : Int32) (a2 : Int32) (a3 : Int32) (h : MH) : Option (Int32 × MH) :=
  if a2 ≤ a3 then
  (let v1 : Int32 := a2 + 1
  (bk.1) a1 v1 h)
  else
  (if inB ((6 * a2) + a3) 36 = true then
  (if (gI h 89 (iN ((6 * a2) + a3))) = 0 then
  (let v2 : Int32 := a3 + 1
  (bk.2) a1 a2 v2 h)
  else
  (if inB a2 6 = true then
  (if inB a3 6 = true then
  ((f_Math_abs_I N ((gI h 103 (iN a2)) - (gI h 103 (iN a3))) h).bind (fun x3 =>
  (f_Math_max N a1 x3.1 x3.2).bind (fun x4 =>
  let v5 : Int32 := a3 + 1
  (bk.2) x4.1 a2 v5 x4.2)))
  else none)
  else none))
  else none)
def F_M_bend_4 (N : Nat) (bk : (Int32 → Int32 → MH → Option (Int32 × MH)) × (Int32 → Int32 → Int32 → MH → Option (Int32 × MH))) (a1 : Int32) (a2 : Int32) (h : MH) : Option (Int32 × MH) :=
  if (gI h 68 32) ≤ a2 then
  (some (a1, h))
  else
  (F_M_bend_14 N bk a1 a2 0 h)
def F_M_bend_0 (N : Nat) (bk : (Int32 → Int32 → MH → Option (Int32 × MH)) × (Int32 → Int32 → Int32 → MH → Option (Int32 × MH))) (h : MH) : Option (Int32 × MH) :=
  F_M_bend_4 N bk 0 0 h
def L_M_bend (N : Nat) : Nat → ((Int32 → Int32 → MH → Option (Int32 × MH)) × (Int32 → Int32 → Int32 → MH → Option (Int32 × MH)))
  | 0 => (fun _ _ _ => none, fun _ _ _ _ => none)
  | n + 1 => (F_M_bend_4 N (L_M_bend N n), F_M_bend_14 N (L_M_bend N n))
def f_M_bend (N : Nat) (h : MH) : Option (Int32 × MH) := F_M_bend_0 N (L_M_bend N N) h
def C_M_bend (N : Nat) : MC := (KDL, false, (fun _ => 0), jsB, (fun j => match Nat.beq j 258 with
    | true => w_Math_abs_I (f_Math_abs_I N)
    | false => match Nat.beq j 260 with
    | true => w_Math_max (f_Math_max N)
    | false => fun _ _ => none), (fun _ _ _ => none), (fun _ _ _ => none), (fun _ _ _ => none))
def D_M_bend (N : Nat) (n pc : Nat) (lv : ML) (st : List MV) (h : MH) : Option (Int32 × MH) :=
  match Nat.beq pc 0 with
  | true => (match lk lv 0, st with
    | some (.inr (.inr (0, 12, 68))), [] => F_M_bend_0 N (L_M_bend N n) h
    | _, _ => none)
  | false => match Nat.beq pc 4 with
  | true => (match lk lv 0, lk lv 1, lk lv 2, st with
    | some (.inr (.inr (0, 12, 68))), some (.inl a1), some (.inl a2), [] => F_M_bend_4 N (L_M_bend N n) a1 a2 h
    | _, _, _, _ => none)
  | false => match Nat.beq pc 14 with
  | true => (match lk lv 0, lk lv 1, lk lv 2, lk lv 3, st with
    | some (.inr (.inr (0, 12, 68))), some (.inl a1), some (.inl a2), some (.inl a3), [] => F_M_bend_14 N (L_M_bend N n) a1 a2 a3 h
    | _, _, _, _, _ => none)
  | false => none
def B_M_bend (N : Nat) (n pc : Nat) (lv : ML) (st : List MV) (h : MH) : Option (Int32 × MH) :=
  match Nat.beq pc 4 with
  | true => (match lk lv 0, lk lv 1, lk lv 2, st with
    | some (.inr (.inr (0, 12, 68))), some (.inl a1), some (.inl a2), [] => ((L_M_bend N n).1) a1 a2 h
    | _, _, _, _ => none)
  | false => match Nat.beq pc 14 with
  | true => (match lk lv 0, lk lv 1, lk lv 2, lk lv 3, st with
    | some (.inr (.inr (0, 12, 68))), some (.inl a1), some (.inl a2), some (.inl a3), [] => ((L_M_bend N n).2) a1 a2 a3 h
    | _, _, _, _, _ => none)
  | false => none
set_option maxRecDepth 1000000 in
theorem E_M_bend_0 (N : Nat) (n : Nat) (h : MH) : seg (C_M_bend N) 4 0 rI T_M_bend [0, 4, 14] (fun q lv st h => match Nat.ble 1 q with
    | true => D_M_bend N n q lv st h
    | false => B_M_bend N n q lv st h) 400 true 0 [(0, .inr (.inr (0, 12, 68)))] [] h = F_M_bend_0 N (L_M_bend N n) h := (rfl)
set_option maxRecDepth 1000000 in
theorem E_M_bend_4 (N : Nat) (n : Nat) (a1 : Int32) (a2 : Int32) (h : MH) : seg (C_M_bend N) 4 0 rI T_M_bend [0, 4, 14] (fun q lv st h => match Nat.ble 5 q with
    | true => D_M_bend N n q lv st h
    | false => B_M_bend N n q lv st h) 400 true 4 [(0, .inr (.inr (0, 12, 68))), (1, .inl a1), (2, .inl a2)] [] h = F_M_bend_4 N (L_M_bend N n) a1 a2 h := (rfl)
set_option maxRecDepth 1000000 in
theorem E_M_bend_14 (N : Nat) (n : Nat) (a1 : Int32) (a2 : Int32) (a3 : Int32) (h : MH) : seg (C_M_bend N) 4 0 rI T_M_bend [0, 4, 14] (fun q lv st h => match Nat.ble 15 q with
    | true => D_M_bend N n q lv st h
    | false => B_M_bend N n q lv st h) 400 true 14 [(0, .inr (.inr (0, 12, 68))), (1, .inl a1), (2, .inl a2), (3, .inl a3)] [] h = F_M_bend_14 N (L_M_bend N n) a1 a2 a3 h := (rfl)
set_option maxRecDepth 1000000 in
theorem chk_M_bend : chkT 12 false prog_14_method_68_code T_M_bend = true := by decide +kernel
theorem mc_M_bend : mC 230 = prog_14_method_68_code := by rfl
theorem mx_M_bend : mL 230 = 4 ∧ mR 230 = some .int ∧ mK 230 = 1 ∧ (mN 230).cls = cN 12 := by decide +kernel
theorem hD_M_bend (N : Nat) {r : Int32 × MH} : ∀ n pc lv st h, D_M_bend N n pc lv st h = some r → ∃ lv', (∀ q ∈ lv', q ∈ lv) ∧ seg (C_M_bend N) 4 0 rI T_M_bend [0, 4, 14] (fun q lv st h => match Nat.ble (pc + 1) q with
    | true => D_M_bend N n q lv st h
    | false => B_M_bend N n q lv st h) 400 true pc lv' st h = some r := by
  intro n pc lv st h hf
  unfold D_M_bend at hf
  split at hf
  · rename_i hb
    have hb := Nat.eq_of_beq_eq_true hb
    subst hb
    split at hf
    · rename_i e0
      exact ⟨_, (sub_cons e0 sub_nil), (E_M_bend_0 N n h).trans hf⟩
    · cases hf
  · skip
    split at hf
    · rename_i hb
      have hb := Nat.eq_of_beq_eq_true hb
      subst hb
      split at hf
      · rename_i y0 y1 e0 e1 e2
        exact ⟨_, (sub_cons e0 (sub_cons e1 (sub_cons e2 sub_nil))), (E_M_bend_4 N n _ _ h).trans hf⟩
      · cases hf
    · skip
      split at hf
      · rename_i hb
        have hb := Nat.eq_of_beq_eq_true hb
        subst hb
        split at hf
        · rename_i y0 y1 y2 e0 e1 e2 e3
          exact ⟨_, (sub_cons e0 (sub_cons e1 (sub_cons e2 (sub_cons e3 sub_nil)))), (E_M_bend_14 N n _ _ _ h).trans hf⟩
        · cases hf
      · skip
        cases hf
theorem hM_M_bend (N : Nat) {r : Int32 × MH} : ∀ n pc lv st h, D_M_bend N n pc lv st h = some r → pc < 68 := by
  intro n pc lv st h hf
  unfold D_M_bend at hf
  split at hf
  · rename_i hb
    rw [Nat.eq_of_beq_eq_true hb]
    decide
  · skip
    split at hf
    · rename_i hb
      rw [Nat.eq_of_beq_eq_true hb]
      decide
    · skip
      split at hf
      · rename_i hb
        rw [Nat.eq_of_beq_eq_true hb]
        decide
      · skip
        cases hf
theorem hB_M_bend (N : Nat) {r : Int32 × MH} : ∀ n pc lv st h, B_M_bend N n pc lv st h = some r → ∃ k, n = k + 1 ∧ D_M_bend N k pc lv st h = some r := by
  intro n pc lv st h hf
  unfold B_M_bend at hf
  split at hf
  · rename_i hb
    have hb := Nat.eq_of_beq_eq_true hb
    subst hb
    cases n with
    | zero =>
      split at hf
      · cases hf
      · cases hf
    | succ k =>
      refine ⟨k, rfl, ?_⟩
      exact hf
  · skip
    split at hf
    · rename_i hb
      have hb := Nat.eq_of_beq_eq_true hb
      subst hb
      cases n with
      | zero =>
        split at hf
        · cases hf
        · cases hf
      | succ k =>
        refine ⟨k, rfl, ?_⟩
        exact hf
    · skip
      cases hf
theorem s_M_bend {l : Launch} {E : EV} {N : Nat} {as : List MV} {h : MH} {r : Int32 × MH} (hf : w_M_bend (f_M_bend N) as h = some r) : SndM l E false 1 230 as h (some (.inl r.1)) r.2 := by
  unfold w_M_bend at hf
  split at hf
  · obtain ⟨m1, m2, m3, m4⟩ := mx_M_bend
    refine snd_of (C := C_M_bend N) (own := 12) (rz := 0) (lim := 115) rI_eq m2 m4 pl_230 (TB_in _ cw_230 rfl) ⟨(fun _ => ⟨_, _, _, _, _, _, rfl, rfl, by rw [m4]; rfl⟩), (fun z => by rw [m3] at z; cases z)⟩ (fun z => by cases z) KDL_take rfl rfl (fun z => by cases z) (fun z => by cases z) (fun _ => rfl) (by rw [m1]; exact Nat.le_of_ble_eq_true rfl)
      (fun j as h x z => by
      dsimp only [C_M_bend] at z
      cases hb : Nat.beq j 258 with
      | true =>
        have hb := Nat.eq_of_beq_eq_true hb
        subst hb
        exact ⟨0, by decide, (fun z => by cases z), s_Math_abs_I z⟩
      | false =>
        rw [hb] at z
        dsimp only at z
        cases hb : Nat.beq j 260 with
        | true =>
          have hb := Nat.eq_of_beq_eq_true hb
          subst hb
          exact ⟨0, by decide, (fun z => by cases z), s_Math_max z⟩
        | false =>
          rw [hb] at z
          dsimp only at z
          cases z)
      (fun _ _ _ _ z => by cases z)
      (fun _ _ _ _ z => by cases z)
      (fun _ _ _ _ z => by cases z)
      (fun p e R s m args below meth c Q n0 F hret => ?_)
    rw [m1] at F hret ⊢
    rw [mc_M_bend] at F hret
    exact cuts_s (K := 400) (M := 68) (D := D_M_bend N) (B := B_M_bend N) F hret (chkT_ok chk_M_bend) (hM_M_bend N) (hB_M_bend N) (hD_M_bend N) N 0 _ _ _ hf
  · cases hf
def T_M_fitting : List (List (Option RW)) := [
  [some (.iconst 0, 1, [], 0, 0), some (.istore_n 2, 1, [2], 0, 0), some (.iconst 0, 1, [], 0, 0), some (.istore_n 3, 1, [3], 0, 0), some (.iload_n 3, 1, [3], 0, 0), some (.aload_n 0, 1, [0], 0, 0), some (.getfield 351, 3, [12, 33, 0], 0, 0), none, none, some (.if_icmp .ge 98, 3, [107], 0, 0), none, none, some (.iload_n 1, 1, [1], 0, 0), some (.iload_n 3, 1, [3], 0, 0), some (.ishr, 1, [], 0, 0), some (.iconst 1, 1, [], 1, 0), some (.iand, 1, [], 0, 0), some (.ifCond .ne 6, 3, [23], 0, 0), none, none, some (.goto 81, 3, [101], 0, 0), none, none, some (.iconst 0, 1, [], 0, 0), some (.istore 4, 2, [4], 0, 0), none, some (.iconst 0, 1, [], 0, 0), some (.istore 5, 2, [5], 0, 0), none, some (.iload 5, 2, [5], 0, 0), none, some (.aload_n 0, 1, [0], 0, 0)],
  [some (.getfield 348, 3, [12, 32, 0], 0, 0), none, none, some (.if_icmp .ge 34, 3, [69], 0, 0), none, none, some (.iload 4, 2, [4], 0, 0), none, some (.aload_n 0, 1, [0], 0, 0), some (.getfield 132, 3, [12, 68, 2, 1, 6, 35], 0, 0), none, none, some (.iload 5, 2, [5], 0, 0), none, some (.iaload, 1, [], 0, 0), some (.aload_n 0, 1, [0], 0, 0), some (.getfield 81, 3, [12, 37, 2, 1, 48, 20], 0, 0), none, none, some (.bipush 8, 2, [], 8, 0), none, some (.iload 5, 2, [5], 0, 0), none, some (.imul, 1, [], 0, 0), some (.iload_n 3, 1, [3], 0, 0), some (.iadd, 1, [], 0, 0), some (.iaload, 1, [], 0, 0), some (.imul, 1, [], 0, 0), some (.iadd, 1, [], 0, 0), some (.istore 4, 2, [4], 0, 0), none, some (.iinc 5 1, 3, [5], 1, 0)],
  [none, none, some (.goto (-37), 3, [29], 0, 0), none, none, some (.iload_n 2, 1, [2], 0, 0), some (.iload 4, 2, [4], 0, 0), none, some (.aload_n 0, 1, [0], 0, 0), some (.getfield 135, 3, [12, 69, 2, 1, 8, 36], 0, 0), none, none, some (.iload_n 3, 1, [3], 0, 0), some (.iaload, 1, [], 0, 0), some (.if_icmp .lt 20, 3, [98], 0, 0), none, none, some (.iload 4, 2, [4], 0, 0), none, some (.aload_n 0, 1, [0], 0, 0), some (.getfield 138, 3, [12, 70, 2, 1, 8, 37], 0, 0), none, none, some (.iload_n 3, 1, [3], 0, 0), some (.iaload, 1, [], 0, 0), some (.if_icmp .gt 9, 3, [98], 0, 0), none, none, some (.iconst 1, 1, [], 1, 0), some (.iload_n 3, 1, [3], 0, 0), some (.ishl, 1, [], 0, 0), some (.goto 4, 3, [99], 0, 0)],
  [none, none, some (.iconst 0, 1, [], 0, 0), some (.ior, 1, [], 0, 0), some (.istore_n 2, 1, [2], 0, 0), some (.iinc 3 1, 3, [3], 1, 0), none, none, some (.goto (-100), 3, [4], 0, 0), none, none, some (.iload_n 2, 1, [2], 0, 0), some (.ireturn, 1, [], 0, 0)]]
def F_M_fitting_29 (N : Nat) (bk : (Int32 → Int32 → Int32 → MH → Option (Int32 × MH)) × (Int32 → Int32 → Int32 → Int32 → Int32 → MH → Option (Int32 × MH))) (a1 : Int32) (a2 : Int32) (a3 : Int32) (a4 : Int32) (a5 : Int32) (h : MH) : Option (Int32 × MH) :=
  if (gI h 68 32) ≤ a5 then
  (if inB a3 8 = true then
  (if a4 < (gI h 104 (iN a3)) then
  (let v2 : Int32 := a2 ||| 0
  let v3 : Int32 := a3 + 1
  (bk.1) a1 v2 v3 h)
  else
  (if inB a3 8 = true then
  (if (gI h 105 (iN a3)) < a4 then
  (let v4 : Int32 := a2 ||| 0
  let v5 : Int32 := a3 + 1
  (bk.1) a1 v4 v5 h)
  else
  (let v6 : Int32 := a2 ||| ((1 : Int32) <<< (a3 &&& 31))
  let v7 : Int32 := a3 + 1
  (bk.1) a1 v6 v7 h))
  else none))
  else none)
  else
  (if inB a5 6 = true then
  (if inB ((8 * a5) + a3) 48 = true then
  (let v8 : Int32 := a4 + ((gI h 103 (iN a5)) * (gI h 88 (iN ((8 * a5) + a3))))
  let v9 : Int32 := a5 + 1
  (bk.2) a1 a2 a3 v8 v9 h)
  else none)
  else none)
def F_M_fitting_4 (N : Nat) (bk : (Int32 → Int32 → Int32 → MH → Option (Int32 × MH)) × (Int32 → Int32 → Int32 → Int32 → Int32 → MH → Option (Int32 × MH))) (a1 : Int32) (a2 : Int32) (a3 : Int32) (h : MH) : Option (Int32 × MH) :=
  if (gI h 68 33) ≤ a3 then
  (some (a2, h))
  else
  (if ((a1 >>> (a3 &&& 31)) &&& 1) = 0 then
  (let v1 : Int32 := a3 + 1
  (bk.1) a1 a2 v1 h)
  else
  (F_M_fitting_29 N bk a1 a2 a3 0 0 h))
def F_M_fitting_0 (N : Nat) (bk : (Int32 → Int32 → Int32 → MH → Option (Int32 × MH)) × (Int32 → Int32 → Int32 → Int32 → Int32 → MH → Option (Int32 × MH))) (a1 : Int32) (h : MH) : Option (Int32 × MH) :=
  F_M_fitting_4 N bk a1 0 0 h
def L_M_fitting (N : Nat) : Nat → ((Int32 → Int32 → Int32 → MH → Option (Int32 × MH)) × (Int32 → Int32 → Int32 → Int32 → Int32 → MH → Option (Int32 × MH)))
  | 0 => (fun _ _ _ _ => none, fun _ _ _ _ _ _ => none)
  | n + 1 => (F_M_fitting_4 N (L_M_fitting N n), F_M_fitting_29 N (L_M_fitting N n))
def f_M_fitting (N : Nat) (a1 : Int32) (h : MH) : Option (Int32 × MH) := F_M_fitting_0 N (L_M_fitting N N) a1 h
def C_M_fitting (N : Nat) : MC := (KDL, false, (fun _ => 0), jsB, (fun _ _ _ => none), (fun _ _ _ => none), (fun _ _ _ => none), (fun _ _ _ => none))
def D_M_fitting (N : Nat) (n pc : Nat) (lv : ML) (st : List MV) (h : MH) : Option (Int32 × MH) :=
  match Nat.beq pc 0 with
  | true => (match lk lv 0, lk lv 1, st with
    | some (.inr (.inr (0, 12, 68))), some (.inl a1), [] => F_M_fitting_0 N (L_M_fitting N n) a1 h
    | _, _, _ => none)
  | false => match Nat.beq pc 4 with
  | true => (match lk lv 0, lk lv 1, lk lv 2, lk lv 3, st with
    | some (.inr (.inr (0, 12, 68))), some (.inl a1), some (.inl a2), some (.inl a3), [] => F_M_fitting_4 N (L_M_fitting N n) a1 a2 a3 h
    | _, _, _, _, _ => none)
  | false => match Nat.beq pc 29 with
  | true => (match lk lv 0, lk lv 1, lk lv 2, lk lv 3, lk lv 4, lk lv 5, st with
    | some (.inr (.inr (0, 12, 68))), some (.inl a1), some (.inl a2), some (.inl a3), some (.inl a4), some (.inl a5), [] => F_M_fitting_29 N (L_M_fitting N n) a1 a2 a3 a4 a5 h
    | _, _, _, _, _, _, _ => none)
  | false => none
def B_M_fitting (N : Nat) (n pc : Nat) (lv : ML) (st : List MV) (h : MH) : Option (Int32 × MH) :=
  match Nat.beq pc 4 with
  | true => (match lk lv 0, lk lv 1, lk lv 2, lk lv 3, st with
    | some (.inr (.inr (0, 12, 68))), some (.inl a1), some (.inl a2), some (.inl a3), [] => ((L_M_fitting N n).1) a1 a2 a3 h
    | _, _, _, _, _ => none)
  | false => match Nat.beq pc 29 with
  | true => (match lk lv 0, lk lv 1, lk lv 2, lk lv 3, lk lv 4, lk lv 5, st with
    | some (.inr (.inr (0, 12, 68))), some (.inl a1), some (.inl a2), some (.inl a3), some (.inl a4), some (.inl a5), [] => ((L_M_fitting N n).2) a1 a2 a3 a4 a5 h
    | _, _, _, _, _, _, _ => none)
  | false => none
set_option maxRecDepth 1000000 in
theorem E_M_fitting_0 (N : Nat) (n : Nat) (a1 : Int32) (h : MH) : seg (C_M_fitting N) 6 0 rI T_M_fitting [0, 4, 29] (fun q lv st h => match Nat.ble 1 q with
    | true => D_M_fitting N n q lv st h
    | false => B_M_fitting N n q lv st h) 400 true 0 [(0, .inr (.inr (0, 12, 68))), (1, .inl a1)] [] h = F_M_fitting_0 N (L_M_fitting N n) a1 h := (rfl)
set_option maxRecDepth 1000000 in
theorem E_M_fitting_4 (N : Nat) (n : Nat) (a1 : Int32) (a2 : Int32) (a3 : Int32) (h : MH) : seg (C_M_fitting N) 6 0 rI T_M_fitting [0, 4, 29] (fun q lv st h => match Nat.ble 5 q with
    | true => D_M_fitting N n q lv st h
    | false => B_M_fitting N n q lv st h) 400 true 4 [(0, .inr (.inr (0, 12, 68))), (1, .inl a1), (2, .inl a2), (3, .inl a3)] [] h = F_M_fitting_4 N (L_M_fitting N n) a1 a2 a3 h := (rfl)
set_option maxRecDepth 1000000 in
theorem E_M_fitting_29 (N : Nat) (n : Nat) (a1 : Int32) (a2 : Int32) (a3 : Int32) (a4 : Int32) (a5 : Int32) (h : MH) : seg (C_M_fitting N) 6 0 rI T_M_fitting [0, 4, 29] (fun q lv st h => match Nat.ble 30 q with
    | true => D_M_fitting N n q lv st h
    | false => B_M_fitting N n q lv st h) 400 true 29 [(0, .inr (.inr (0, 12, 68))), (1, .inl a1), (2, .inl a2), (3, .inl a3), (4, .inl a4), (5, .inl a5)] [] h = F_M_fitting_29 N (L_M_fitting N n) a1 a2 a3 a4 a5 h := (rfl)
set_option maxRecDepth 1000000 in
theorem chk_M_fitting : chkT 12 false prog_14_method_69_code T_M_fitting = true := by decide +kernel
theorem mc_M_fitting : mC 231 = prog_14_method_69_code := by rfl
theorem mx_M_fitting : mL 231 = 6 ∧ mR 231 = some .int ∧ mK 231 = 1 ∧ (mN 231).cls = cN 12 := by decide +kernel
theorem hD_M_fitting (N : Nat) {r : Int32 × MH} : ∀ n pc lv st h, D_M_fitting N n pc lv st h = some r → ∃ lv', (∀ q ∈ lv', q ∈ lv) ∧ seg (C_M_fitting N) 6 0 rI T_M_fitting [0, 4, 29] (fun q lv st h => match Nat.ble (pc + 1) q with
    | true => D_M_fitting N n q lv st h
    | false => B_M_fitting N n q lv st h) 400 true pc lv' st h = some r := by
  intro n pc lv st h hf
  unfold D_M_fitting at hf
  split at hf
  · rename_i hb
    have hb := Nat.eq_of_beq_eq_true hb
    subst hb
    split at hf
    · rename_i y0 e0 e1
      exact ⟨_, (sub_cons e0 (sub_cons e1 sub_nil)), (E_M_fitting_0 N n _ h).trans hf⟩
    · cases hf
  · skip
    split at hf
    · rename_i hb
      have hb := Nat.eq_of_beq_eq_true hb
      subst hb
      split at hf
      · rename_i y0 y1 y2 e0 e1 e2 e3
        exact ⟨_, (sub_cons e0 (sub_cons e1 (sub_cons e2 (sub_cons e3 sub_nil)))), (E_M_fitting_4 N n _ _ _ h).trans hf⟩
      · cases hf
    · skip
      split at hf
      · rename_i hb
        have hb := Nat.eq_of_beq_eq_true hb
        subst hb
        split at hf
        · rename_i y0 y1 y2 y3 y4 e0 e1 e2 e3 e4 e5
          exact ⟨_, (sub_cons e0 (sub_cons e1 (sub_cons e2 (sub_cons e3 (sub_cons e4 (sub_cons e5 sub_nil)))))), (E_M_fitting_29 N n _ _ _ _ _ h).trans hf⟩
        · cases hf
      · skip
        cases hf
theorem hM_M_fitting (N : Nat) {r : Int32 × MH} : ∀ n pc lv st h, D_M_fitting N n pc lv st h = some r → pc < 109 := by
  intro n pc lv st h hf
  unfold D_M_fitting at hf
  split at hf
  · rename_i hb
    rw [Nat.eq_of_beq_eq_true hb]
    decide
  · skip
    split at hf
    · rename_i hb
      rw [Nat.eq_of_beq_eq_true hb]
      decide
    · skip
      split at hf
      · rename_i hb
        rw [Nat.eq_of_beq_eq_true hb]
        decide
      · skip
        cases hf
theorem hB_M_fitting (N : Nat) {r : Int32 × MH} : ∀ n pc lv st h, B_M_fitting N n pc lv st h = some r → ∃ k, n = k + 1 ∧ D_M_fitting N k pc lv st h = some r := by
  intro n pc lv st h hf
  unfold B_M_fitting at hf
  split at hf
  · rename_i hb
    have hb := Nat.eq_of_beq_eq_true hb
    subst hb
    cases n with
    | zero =>
      split at hf
      · cases hf
      · cases hf
    | succ k =>
      refine ⟨k, rfl, ?_⟩
      exact hf
  · skip
    split at hf
    · rename_i hb
      have hb := Nat.eq_of_beq_eq_true hb
      subst hb
      cases n with
      | zero =>
        split at hf
        · cases hf
        · cases hf
      | succ k =>
        refine ⟨k, rfl, ?_⟩
        exact hf
    · skip
      cases hf
theorem s_M_fitting {l : Launch} {E : EV} {N : Nat} {as : List MV} {h : MH} {r : Int32 × MH} (hf : w_M_fitting (f_M_fitting N) as h = some r) : SndM l E false 0 231 as h (some (.inl r.1)) r.2 := by
  unfold w_M_fitting at hf
  split at hf
  · obtain ⟨m1, m2, m3, m4⟩ := mx_M_fitting
    refine snd_of (C := C_M_fitting N) (own := 12) (rz := 0) (lim := 115) rI_eq m2 m4 pl_231 (TB_in _ cw_231 rfl) ⟨(fun _ => ⟨_, _, _, _, _, _, rfl, rfl, by rw [m4]; rfl⟩), (fun z => by rw [m3] at z; cases z)⟩ (fun z => by cases z) KDL_take rfl rfl (fun z => by cases z) (fun z => by cases z) (fun _ => rfl) (by rw [m1]; exact Nat.le_of_ble_eq_true rfl)
      (fun _ _ _ _ z => by cases z)
      (fun _ _ _ _ z => by cases z)
      (fun _ _ _ _ z => by cases z)
      (fun _ _ _ _ z => by cases z)
      (fun p e R s m args below meth c Q n0 F hret => ?_)
    rw [m1] at F hret ⊢
    rw [mc_M_fitting] at F hret
    exact cuts_s (K := 400) (M := 109) (D := D_M_fitting N) (B := B_M_fitting N) F hret (chkT_ok chk_M_fitting) (hM_M_fitting N) (hB_M_fitting N) (hD_M_fitting N) N 0 _ _ _ hf
  · cases hf
def T_M_sumOf : List (List (Option RW)) := [
  [some (.iconst 0, 1, [], 0, 0), some (.istore_n 2, 1, [2], 0, 0), some (.iconst 0, 1, [], 0, 0), some (.istore_n 3, 1, [3], 0, 0), some (.iload_n 3, 1, [3], 0, 0), some (.aload_n 0, 1, [0], 0, 0), some (.getfield 348, 3, [12, 32, 0], 0, 0), none, none, some (.if_icmp .ge 31, 3, [40], 0, 0), none, none, some (.iload_n 2, 1, [2], 0, 0), some (.iload_n 1, 1, [1], 0, 0), some (.iload_n 3, 1, [3], 0, 0), some (.ishr, 1, [], 0, 0), some (.iconst 1, 1, [], 1, 0), some (.iand, 1, [], 0, 0), some (.iconst 1, 1, [], 1, 0), some (.if_icmp .ne 12, 3, [31], 0, 0), none, none, some (.aload_n 0, 1, [0], 0, 0), some (.getfield 132, 3, [12, 68, 2, 1, 6, 35], 0, 0), none, none, some (.iload_n 3, 1, [3], 0, 0), some (.iaload, 1, [], 0, 0), some (.goto 4, 3, [32], 0, 0), none, none, some (.iconst 0, 1, [], 0, 0)],
  [some (.iadd, 1, [], 0, 0), some (.istore_n 2, 1, [2], 0, 0), some (.iinc 3 1, 3, [3], 1, 0), none, none, some (.goto (-33), 3, [4], 0, 0), none, none, some (.iload_n 2, 1, [2], 0, 0), some (.ireturn, 1, [], 0, 0)]]
def F_M_sumOf_4 (N : Nat) (bk : (Int32 → Int32 → Int32 → MH → Option (Int32 × MH))) (a1 : Int32) (a2 : Int32) (a3 : Int32) (h : MH) : Option (Int32 × MH) :=
  if (gI h 68 32) ≤ a3 then
  (some (a2, h))
  else
  (if ((a1 >>> (a3 &&& 31)) &&& 1) = 1 then
  (if inB a3 6 = true then
  (let v1 : Int32 := a2 + (gI h 103 (iN a3))
  let v2 : Int32 := a3 + 1
  bk a1 v1 v2 h)
  else none)
  else
  (let v3 : Int32 := a2 + 0
  let v4 : Int32 := a3 + 1
  bk a1 v3 v4 h))
def F_M_sumOf_0 (N : Nat) (bk : (Int32 → Int32 → Int32 → MH → Option (Int32 × MH))) (a1 : Int32) (h : MH) : Option (Int32 × MH) :=
  F_M_sumOf_4 N bk a1 0 0 h
def L_M_sumOf (N : Nat) : Nat → (Int32 → Int32 → Int32 → MH → Option (Int32 × MH))
  | 0 => fun _ _ _ _ => none
  | n + 1 => F_M_sumOf_4 N (L_M_sumOf N n)
def f_M_sumOf (N : Nat) (a1 : Int32) (h : MH) : Option (Int32 × MH) := F_M_sumOf_0 N (L_M_sumOf N N) a1 h
def C_M_sumOf (N : Nat) : MC := (KDL, false, (fun _ => 0), jsB, (fun _ _ _ => none), (fun _ _ _ => none), (fun _ _ _ => none), (fun _ _ _ => none))
def D_M_sumOf (N : Nat) (n pc : Nat) (lv : ML) (st : List MV) (h : MH) : Option (Int32 × MH) :=
  match Nat.beq pc 0 with
  | true => (match lk lv 0, lk lv 1, st with
    | some (.inr (.inr (0, 12, 68))), some (.inl a1), [] => F_M_sumOf_0 N (L_M_sumOf N n) a1 h
    | _, _, _ => none)
  | false => match Nat.beq pc 4 with
  | true => (match lk lv 0, lk lv 1, lk lv 2, lk lv 3, st with
    | some (.inr (.inr (0, 12, 68))), some (.inl a1), some (.inl a2), some (.inl a3), [] => F_M_sumOf_4 N (L_M_sumOf N n) a1 a2 a3 h
    | _, _, _, _, _ => none)
  | false => none
def B_M_sumOf (N : Nat) (n pc : Nat) (lv : ML) (st : List MV) (h : MH) : Option (Int32 × MH) :=
  match Nat.beq pc 4 with
  | true => (match lk lv 0, lk lv 1, lk lv 2, lk lv 3, st with
    | some (.inr (.inr (0, 12, 68))), some (.inl a1), some (.inl a2), some (.inl a3), [] => ((L_M_sumOf N n)) a1 a2 a3 h
    | _, _, _, _, _ => none)
  | false => none
set_option maxRecDepth 1000000 in
theorem E_M_sumOf_0 (N : Nat) (n : Nat) (a1 : Int32) (h : MH) : seg (C_M_sumOf N) 4 0 rI T_M_sumOf [0, 4] (fun q lv st h => match Nat.ble 1 q with
    | true => D_M_sumOf N n q lv st h
    | false => B_M_sumOf N n q lv st h) 400 true 0 [(0, .inr (.inr (0, 12, 68))), (1, .inl a1)] [] h = F_M_sumOf_0 N (L_M_sumOf N n) a1 h := (rfl)
set_option maxRecDepth 1000000 in
theorem E_M_sumOf_4 (N : Nat) (n : Nat) (a1 : Int32) (a2 : Int32) (a3 : Int32) (h : MH) : seg (C_M_sumOf N) 4 0 rI T_M_sumOf [0, 4] (fun q lv st h => match Nat.ble 5 q with
    | true => D_M_sumOf N n q lv st h
    | false => B_M_sumOf N n q lv st h) 400 true 4 [(0, .inr (.inr (0, 12, 68))), (1, .inl a1), (2, .inl a2), (3, .inl a3)] [] h = F_M_sumOf_4 N (L_M_sumOf N n) a1 a2 a3 h := (rfl)
set_option maxRecDepth 1000000 in
theorem chk_M_sumOf : chkT 12 false prog_14_method_70_code T_M_sumOf = true := by decide +kernel
theorem mc_M_sumOf : mC 232 = prog_14_method_70_code := by rfl
theorem mx_M_sumOf : mL 232 = 4 ∧ mR 232 = some .int ∧ mK 232 = 1 ∧ (mN 232).cls = cN 12 := by decide +kernel
theorem hD_M_sumOf (N : Nat) {r : Int32 × MH} : ∀ n pc lv st h, D_M_sumOf N n pc lv st h = some r → ∃ lv', (∀ q ∈ lv', q ∈ lv) ∧ seg (C_M_sumOf N) 4 0 rI T_M_sumOf [0, 4] (fun q lv st h => match Nat.ble (pc + 1) q with
    | true => D_M_sumOf N n q lv st h
    | false => B_M_sumOf N n q lv st h) 400 true pc lv' st h = some r := by
  intro n pc lv st h hf
  unfold D_M_sumOf at hf
  split at hf
  · rename_i hb
    have hb := Nat.eq_of_beq_eq_true hb
    subst hb
    split at hf
    · rename_i y0 e0 e1
      exact ⟨_, (sub_cons e0 (sub_cons e1 sub_nil)), (E_M_sumOf_0 N n _ h).trans hf⟩
    · cases hf
  · skip
    split at hf
    · rename_i hb
      have hb := Nat.eq_of_beq_eq_true hb
      subst hb
      split at hf
      · rename_i y0 y1 y2 e0 e1 e2 e3
        exact ⟨_, (sub_cons e0 (sub_cons e1 (sub_cons e2 (sub_cons e3 sub_nil)))), (E_M_sumOf_4 N n _ _ _ h).trans hf⟩
      · cases hf
    · skip
      cases hf
theorem hM_M_sumOf (N : Nat) {r : Int32 × MH} : ∀ n pc lv st h, D_M_sumOf N n pc lv st h = some r → pc < 42 := by
  intro n pc lv st h hf
  unfold D_M_sumOf at hf
  split at hf
  · rename_i hb
    rw [Nat.eq_of_beq_eq_true hb]
    decide
  · skip
    split at hf
    · rename_i hb
      rw [Nat.eq_of_beq_eq_true hb]
      decide
    · skip
      cases hf
theorem hB_M_sumOf (N : Nat) {r : Int32 × MH} : ∀ n pc lv st h, B_M_sumOf N n pc lv st h = some r → ∃ k, n = k + 1 ∧ D_M_sumOf N k pc lv st h = some r := by
  intro n pc lv st h hf
  unfold B_M_sumOf at hf
  split at hf
  · rename_i hb
    have hb := Nat.eq_of_beq_eq_true hb
    subst hb
    cases n with
    | zero =>
      split at hf
      · cases hf
      · cases hf
    | succ k =>
      refine ⟨k, rfl, ?_⟩
      exact hf
  · skip
    cases hf
theorem s_M_sumOf {l : Launch} {E : EV} {N : Nat} {as : List MV} {h : MH} {r : Int32 × MH} (hf : w_M_sumOf (f_M_sumOf N) as h = some r) : SndM l E false 0 232 as h (some (.inl r.1)) r.2 := by
  unfold w_M_sumOf at hf
  split at hf
  · obtain ⟨m1, m2, m3, m4⟩ := mx_M_sumOf
    refine snd_of (C := C_M_sumOf N) (own := 12) (rz := 0) (lim := 115) rI_eq m2 m4 pl_232 (TB_in _ cw_232 rfl) ⟨(fun _ => ⟨_, _, _, _, _, _, rfl, rfl, by rw [m4]; rfl⟩), (fun z => by rw [m3] at z; cases z)⟩ (fun z => by cases z) KDL_take rfl rfl (fun z => by cases z) (fun z => by cases z) (fun _ => rfl) (by rw [m1]; exact Nat.le_of_ble_eq_true rfl)
      (fun _ _ _ _ z => by cases z)
      (fun _ _ _ _ z => by cases z)
      (fun _ _ _ _ z => by cases z)
      (fun _ _ _ _ z => by cases z)
      (fun p e R s m args below meth c Q n0 F hret => ?_)
    rw [m1] at F hret ⊢
    rw [mc_M_sumOf] at F hret
    exact cuts_s (K := 400) (M := 42) (D := D_M_sumOf N) (B := B_M_sumOf N) F hret (chkT_ok chk_M_sumOf) (hM_M_sumOf N) (hB_M_sumOf N) (hD_M_sumOf N) N 0 _ _ _ hf
  · cases hf
def T_M_count : List (List (Option RW)) := [
  [some (.lconst 0, 1, [], 0, 0), some (.lstore_n 3, 1, [3], 0, 0), some (.iconst 0, 1, [], 0, 0), some (.istore 5, 2, [5], 0, 0), none, some (.iload 5, 2, [5], 0, 0), none, some (.bipush 55, 2, [], 55, 0), none, some (.if_icmp .ge 17, 3, [26], 0, 0), none, none, some (.aload_n 0, 1, [0], 0, 0), some (.getfield 144, 3, [12, 72, 2, 2, 55, 39], 0, 0), none, none, some (.iload 5, 2, [5], 0, 0), none, some (.lconst 0, 1, [], 0, 0), some (.lastore, 1, [], 0, 0), some (.iinc 5 1, 3, [5], 1, 0), none, none, some (.goto (-18), 3, [5], 0, 0), none, none, some (.aload_n 0, 1, [0], 0, 0), some (.invokevirtual 436, 3, [0, 228, 1, 0], 0, 0), none, none, some (.istore 5, 2, [5], 0, 0), none],
  [some (.iconst 0, 1, [], 0, 0), some (.istore 6, 2, [6], 0, 0), none, some (.iload 6, 2, [6], 0, 0), none, some (.iload 5, 2, [5], 0, 0), none, some (.if_icmp .ge 94, 3, [133], 0, 0), none, none, some (.aload_n 0, 1, [0], 0, 0), some (.iload 6, 2, [6], 0, 0), none, some (.invokevirtual 439, 3, [0, 229, 2, 3], 0, 0), none, none, some (.aload_n 0, 1, [0], 0, 0), some (.invokevirtual 442, 3, [0, 230, 1, 0], 0, 0), none, none, some (.aload_n 0, 1, [0], 0, 0), some (.getfield 129, 3, [12, 66, 0], 0, 0), none, none, some (.if_icmp .gt 71, 3, [127], 0, 0), none, none, some (.aload_n 0, 1, [0], 0, 0), some (.iload_n 1, 1, [1], 0, 0), some (.invokevirtual 445, 3, [0, 231, 2, 0], 0, 0), none, none],
  [some (.iload_n 1, 1, [1], 0, 0), some (.if_icmp .eq 6, 3, [71], 0, 0), none, none, some (.goto 59, 3, [127], 0, 0), none, none, some (.lload_n 3, 1, [3], 0, 0), some (.lconst 0, 1, [], 0, 0), some (.lcmp, 1, [], 0, 0), some (.ifCond .ne 35, 3, [109], 0, 0), none, none, some (.iconst 0, 1, [], 0, 0), some (.istore 7, 2, [7], 0, 0), none, some (.iload 7, 2, [7], 0, 0), none, some (.aload_n 0, 1, [0], 0, 0), some (.getfield 348, 3, [12, 32, 0], 0, 0), none, none, some (.if_icmp .ge 23, 3, [109], 0, 0), none, none, some (.aload_n 0, 1, [0], 0, 0), some (.getfield 147, 3, [12, 73, 2, 1, 6, 40], 0, 0), none, none, some (.iload 7, 2, [7], 0, 0), none, some (.aload_n 0, 1, [0], 0, 0)],
  [some (.getfield 132, 3, [12, 68, 2, 1, 6, 35], 0, 0), none, none, some (.iload 7, 2, [7], 0, 0), none, some (.iaload, 1, [], 0, 0), some (.iastore, 1, [], 0, 0), some (.iinc 7 1, 3, [7], 1, 0), none, none, some (.goto (-26), 3, [80], 0, 0), none, none, some (.aload_n 0, 1, [0], 0, 0), some (.getfield 144, 3, [12, 72, 2, 2, 55, 39], 0, 0), none, none, some (.aload_n 0, 1, [0], 0, 0), some (.iload_n 2, 1, [2], 0, 0), some (.invokevirtual 448, 3, [0, 232, 2, 0], 0, 0), none, none, some (.dup2, 1, [], 0, 0), some (.laload, 1, [], 0, 0), some (.lconst 1, 1, [], 0, 1), some (.ladd, 1, [], 0, 0), some (.lastore, 1, [], 0, 0), some (.lload_n 3, 1, [3], 0, 0), some (.lconst 1, 1, [], 0, 1), some (.ladd, 1, [], 0, 0), some (.lstore_n 3, 1, [3], 0, 0), some (.iinc 6 1, 3, [6], 1, 0)],
  [none, none, some (.goto (-95), 3, [35], 0, 0), none, none, some (.lload_n 3, 1, [3], 0, 0), some (.lreturn, 1, [], 0, 0)]]
def F_M_count_109 (N : Nat) (bk : (Int32 → Int32 → Int64 → Int32 → MH → Option (Int64 × MH)) × (Int32 → Int32 → Int64 → Int32 → Int32 → MH → Option (Int64 × MH)) × (Int32 → Int32 → Int64 → Int32 → Int32 → Int32 → MH → Option (Int64 × MH))) (a1 : Int32) (a2 : Int32) (a3 : Int64) (a5 : Int32) (a6 : Int32) (h : MH) : Option (Int64 × MH) :=
  (f_M_sumOf N a2 h).bind (fun x9 =>
  if inB x9.1 55 = true then
  (if inB x9.1 55 = true then
  (let h10 : MH := sJ x9.2 107 (iN x9.1) ((gJ x9.2 107 (iN x9.1)) + 1)
  let v11 : Int64 := a3 + 1
  let v12 : Int32 := a6 + 1
  (bk.2.1) a1 a2 v11 a5 v12 h10)
  else none)
  else none)
def F_M_count_80 (N : Nat) (bk : (Int32 → Int32 → Int64 → Int32 → MH → Option (Int64 × MH)) × (Int32 → Int32 → Int64 → Int32 → Int32 → MH → Option (Int64 × MH)) × (Int32 → Int32 → Int64 → Int32 → Int32 → Int32 → MH → Option (Int64 × MH))) (a1 : Int32) (a2 : Int32) (a3 : Int64) (a5 : Int32) (a6 : Int32) (a7 : Int32) (h : MH) : Option (Int64 × MH) :=
  if (gI h 68 32) ≤ a7 then
  (F_M_count_109 N bk a1 a2 a3 a5 a6 h)
  else
  (if inB a7 6 = true then
  (if inB a7 6 = true then
  (let h13 : MH := sI h 108 (iN a7) (gI h 103 (iN a7))
  let v14 : Int32 := a7 + 1
  (bk.2.2) a1 a2 a3 a5 a6 v14 h13)
  else none)
  else none)
def F_M_count_35 (N : Nat) (bk : (Int32 → Int32 → Int64 → Int32 → MH → Option (Int64 × MH)) × (Int32 → Int32 → Int64 → Int32 → Int32 → MH → Option (Int64 × MH)) × (Int32 → Int32 → Int64 → Int32 → Int32 → Int32 → MH → Option (Int64 × MH))) (a1 : Int32) (a2 : Int32) (a3 : Int64) (a5 : Int32) (a6 : Int32) (h : MH) : Option (Int64 × MH) :=
  if a5 ≤ a6 then
  (some (a3, h))
  else
  ((f_M_lay N a6 h).bind (fun x4 =>
  (f_M_bend N x4).bind (fun x5 =>
  if (gI x5.2 68 66) < x5.1 then
  (let v6 : Int32 := a6 + 1
  (bk.2.1) a1 a2 a3 a5 v6 x5.2)
  else
  ((f_M_fitting N a1 x5.2).bind (fun x7 =>
  if x7.1 = a1 then
  (if (lg_cmp a3 0) = 0 then
  (F_M_count_80 N bk a1 a2 a3 a5 a6 0 x7.2)
  else
  (F_M_count_109 N bk a1 a2 a3 a5 a6 x7.2))
  else
  (let v8 : Int32 := a6 + 1
  (bk.2.1) a1 a2 a3 a5 v8 x7.2))))))
def F_M_count_5 (N : Nat) (bk : (Int32 → Int32 → Int64 → Int32 → MH → Option (Int64 × MH)) × (Int32 → Int32 → Int64 → Int32 → Int32 → MH → Option (Int64 × MH)) × (Int32 → Int32 → Int64 → Int32 → Int32 → Int32 → MH → Option (Int64 × MH))) (a1 : Int32) (a2 : Int32) (a3 : Int64) (a5 : Int32) (h : MH) : Option (Int64 × MH) :=
  if 55 ≤ a5 then
  ((f_M_rowsOfSlips N h).bind (fun x1 =>
  F_M_count_35 N bk a1 a2 a3 x1.1 0 x1.2))
  else
  (if inB a5 55 = true then
  (let h2 : MH := sJ h 107 (iN a5) 0
  let v3 : Int32 := a5 + 1
  (bk.1) a1 a2 a3 v3 h2)
  else none)
def F_M_count_0 (N : Nat) (bk : (Int32 → Int32 → Int64 → Int32 → MH → Option (Int64 × MH)) × (Int32 → Int32 → Int64 → Int32 → Int32 → MH → Option (Int64 × MH)) × (Int32 → Int32 → Int64 → Int32 → Int32 → Int32 → MH → Option (Int64 × MH))) (a1 : Int32) (a2 : Int32) (h : MH) : Option (Int64 × MH) :=
  F_M_count_5 N bk a1 a2 0 0 h
def L_M_count (N : Nat) : Nat → ((Int32 → Int32 → Int64 → Int32 → MH → Option (Int64 × MH)) × (Int32 → Int32 → Int64 → Int32 → Int32 → MH → Option (Int64 × MH)) × (Int32 → Int32 → Int64 → Int32 → Int32 → Int32 → MH → Option (Int64 × MH)))
  | 0 => (fun _ _ _ _ _ => none, fun _ _ _ _ _ _ => none, fun _ _ _ _ _ _ _ => none)
  | n + 1 => (F_M_count_5 N (L_M_count N n), F_M_count_35 N (L_M_count N n), F_M_count_80 N (L_M_count N n))
def f_M_count (N : Nat) (a1 : Int32) (a2 : Int32) (h : MH) : Option (Int64 × MH) := F_M_count_0 N (L_M_count N N) a1 a2 h
def C_M_count (N : Nat) : MC := (KDL, false, (fun _ => 0), jsB, (fun j => match Nat.beq j 228 with
    | true => w_M_rowsOfSlips (f_M_rowsOfSlips N)
    | false => match Nat.beq j 230 with
    | true => w_M_bend (f_M_bend N)
    | false => match Nat.beq j 231 with
    | true => w_M_fitting (f_M_fitting N)
    | false => match Nat.beq j 232 with
    | true => w_M_sumOf (f_M_sumOf N)
    | false => fun _ _ => none), (fun _ _ _ => none), (fun _ _ _ => none), (fun j => match Nat.beq j 229 with
    | true => w_M_lay (f_M_lay N)
    | false => fun _ _ => none))
def D_M_count (N : Nat) (n pc : Nat) (lv : ML) (st : List MV) (h : MH) : Option (Int64 × MH) :=
  match Nat.beq pc 0 with
  | true => (match lk lv 0, lk lv 1, lk lv 2, st with
    | some (.inr (.inr (0, 12, 68))), some (.inl a1), some (.inl a2), [] => F_M_count_0 N (L_M_count N n) a1 a2 h
    | _, _, _, _ => none)
  | false => match Nat.beq pc 5 with
  | true => (match lk lv 0, lk lv 1, lk lv 2, lk lv 3, lk lv 5, st with
    | some (.inr (.inr (0, 12, 68))), some (.inl a1), some (.inl a2), some (.inr (.inl a3)), some (.inl a5), [] => F_M_count_5 N (L_M_count N n) a1 a2 a3 a5 h
    | _, _, _, _, _, _ => none)
  | false => match Nat.beq pc 35 with
  | true => (match lk lv 0, lk lv 1, lk lv 2, lk lv 3, lk lv 5, lk lv 6, st with
    | some (.inr (.inr (0, 12, 68))), some (.inl a1), some (.inl a2), some (.inr (.inl a3)), some (.inl a5), some (.inl a6), [] => F_M_count_35 N (L_M_count N n) a1 a2 a3 a5 a6 h
    | _, _, _, _, _, _, _ => none)
  | false => match Nat.beq pc 80 with
  | true => (match lk lv 0, lk lv 1, lk lv 2, lk lv 3, lk lv 5, lk lv 6, lk lv 7, st with
    | some (.inr (.inr (0, 12, 68))), some (.inl a1), some (.inl a2), some (.inr (.inl a3)), some (.inl a5), some (.inl a6), some (.inl a7), [] => F_M_count_80 N (L_M_count N n) a1 a2 a3 a5 a6 a7 h
    | _, _, _, _, _, _, _, _ => none)
  | false => match Nat.beq pc 109 with
  | true => (match lk lv 0, lk lv 1, lk lv 2, lk lv 3, lk lv 5, lk lv 6, st with
    | some (.inr (.inr (0, 12, 68))), some (.inl a1), some (.inl a2), some (.inr (.inl a3)), some (.inl a5), some (.inl a6), [] => F_M_count_109 N (L_M_count N n) a1 a2 a3 a5 a6 h
    | _, _, _, _, _, _, _ => none)
  | false => none
def B_M_count (N : Nat) (n pc : Nat) (lv : ML) (st : List MV) (h : MH) : Option (Int64 × MH) :=
  match Nat.beq pc 5 with
  | true => (match lk lv 0, lk lv 1, lk lv 2, lk lv 3, lk lv 5, st with
    | some (.inr (.inr (0, 12, 68))), some (.inl a1), some (.inl a2), some (.inr (.inl a3)), some (.inl a5), [] => ((L_M_count N n).1) a1 a2 a3 a5 h
    | _, _, _, _, _, _ => none)
  | false => match Nat.beq pc 35 with
  | true => (match lk lv 0, lk lv 1, lk lv 2, lk lv 3, lk lv 5, lk lv 6, st with
    | some (.inr (.inr (0, 12, 68))), some (.inl a1), some (.inl a2), some (.inr (.inl a3)), some (.inl a5), some (.inl a6), [] => ((L_M_count N n).2.1) a1 a2 a3 a5 a6 h
    | _, _, _, _, _, _, _ => none)
  | false => match Nat.beq pc 80 with
  | true => (match lk lv 0, lk lv 1, lk lv 2, lk lv 3, lk lv 5, lk lv 6, lk lv 7, st with
    | some (.inr (.inr (0, 12, 68))), some (.inl a1), some (.inl a2), some (.inr (.inl a3)), some (.inl a5), some (.inl a6), some (.inl a7), [] => ((L_M_count N n).2.2) a1 a2 a3 a5 a6 a7 h
    | _, _, _, _, _, _, _, _ => none)
  | false => none
set_option maxRecDepth 1000000 in
theorem E_M_count_0 (N : Nat) (n : Nat) (a1 : Int32) (a2 : Int32) (h : MH) : seg (C_M_count N) 8 0 rJ T_M_count [0, 5, 35, 80, 109] (fun q lv st h => match Nat.ble 1 q with
    | true => D_M_count N n q lv st h
    | false => B_M_count N n q lv st h) 400 true 0 [(0, .inr (.inr (0, 12, 68))), (1, .inl a1), (2, .inl a2)] [] h = F_M_count_0 N (L_M_count N n) a1 a2 h := (rfl)
set_option maxRecDepth 1000000 in
theorem E_M_count_5 (N : Nat) (n : Nat) (a1 : Int32) (a2 : Int32) (a3 : Int64) (a5 : Int32) (h : MH) : seg (C_M_count N) 8 0 rJ T_M_count [0, 5, 35, 80, 109] (fun q lv st h => match Nat.ble 6 q with
    | true => D_M_count N n q lv st h
    | false => B_M_count N n q lv st h) 400 true 5 [(0, .inr (.inr (0, 12, 68))), (1, .inl a1), (2, .inl a2), (3, .inr (.inl a3)), (5, .inl a5)] [] h = F_M_count_5 N (L_M_count N n) a1 a2 a3 a5 h := (rfl)
set_option maxRecDepth 1000000 in
theorem E_M_count_35 (N : Nat) (n : Nat) (a1 : Int32) (a2 : Int32) (a3 : Int64) (a5 : Int32) (a6 : Int32) (h : MH) : seg (C_M_count N) 8 0 rJ T_M_count [0, 5, 35, 80, 109] (fun q lv st h => match Nat.ble 36 q with
    | true => D_M_count N n q lv st h
    | false => B_M_count N n q lv st h) 400 true 35 [(0, .inr (.inr (0, 12, 68))), (1, .inl a1), (2, .inl a2), (3, .inr (.inl a3)), (5, .inl a5), (6, .inl a6)] [] h = F_M_count_35 N (L_M_count N n) a1 a2 a3 a5 a6 h := (rfl)
set_option maxRecDepth 1000000 in
theorem E_M_count_80 (N : Nat) (n : Nat) (a1 : Int32) (a2 : Int32) (a3 : Int64) (a5 : Int32) (a6 : Int32) (a7 : Int32) (h : MH) : seg (C_M_count N) 8 0 rJ T_M_count [0, 5, 35, 80, 109] (fun q lv st h => match Nat.ble 81 q with
    | true => D_M_count N n q lv st h
    | false => B_M_count N n q lv st h) 400 true 80 [(0, .inr (.inr (0, 12, 68))), (1, .inl a1), (2, .inl a2), (3, .inr (.inl a3)), (5, .inl a5), (6, .inl a6), (7, .inl a7)] [] h = F_M_count_80 N (L_M_count N n) a1 a2 a3 a5 a6 a7 h := (rfl)
set_option maxRecDepth 1000000 in
theorem E_M_count_109 (N : Nat) (n : Nat) (a1 : Int32) (a2 : Int32) (a3 : Int64) (a5 : Int32) (a6 : Int32) (h : MH) : seg (C_M_count N) 8 0 rJ T_M_count [0, 5, 35, 80, 109] (fun q lv st h => match Nat.ble 110 q with
    | true => D_M_count N n q lv st h
    | false => B_M_count N n q lv st h) 400 true 109 [(0, .inr (.inr (0, 12, 68))), (1, .inl a1), (2, .inl a2), (3, .inr (.inl a3)), (5, .inl a5), (6, .inl a6)] [] h = F_M_count_109 N (L_M_count N n) a1 a2 a3 a5 a6 h := (rfl)
set_option maxRecDepth 1000000 in
theorem chk_M_count : chkT 12 false prog_14_method_71_code T_M_count = true := by decide +kernel
theorem mc_M_count : mC 233 = prog_14_method_71_code := by rfl
theorem mx_M_count : mL 233 = 8 ∧ mR 233 = some .long ∧ mK 233 = 1 ∧ (mN 233).cls = cN 12 := by decide +kernel
theorem hD_M_count (N : Nat) {r : Int64 × MH} : ∀ n pc lv st h, D_M_count N n pc lv st h = some r → ∃ lv', (∀ q ∈ lv', q ∈ lv) ∧ seg (C_M_count N) 8 0 rJ T_M_count [0, 5, 35, 80, 109] (fun q lv st h => match Nat.ble (pc + 1) q with
    | true => D_M_count N n q lv st h
    | false => B_M_count N n q lv st h) 400 true pc lv' st h = some r := by
  intro n pc lv st h hf
  unfold D_M_count at hf
  split at hf
  · rename_i hb
    have hb := Nat.eq_of_beq_eq_true hb
    subst hb
    split at hf
    · rename_i y0 y1 e0 e1 e2
      exact ⟨_, (sub_cons e0 (sub_cons e1 (sub_cons e2 sub_nil))), (E_M_count_0 N n _ _ h).trans hf⟩
    · cases hf
  · skip
    split at hf
    · rename_i hb
      have hb := Nat.eq_of_beq_eq_true hb
      subst hb
      split at hf
      · rename_i y0 y1 y2 y3 e0 e1 e2 e3 e4
        exact ⟨_, (sub_cons e0 (sub_cons e1 (sub_cons e2 (sub_cons e3 (sub_cons e4 sub_nil))))), (E_M_count_5 N n _ _ _ _ h).trans hf⟩
      · cases hf
    · skip
      split at hf
      · rename_i hb
        have hb := Nat.eq_of_beq_eq_true hb
        subst hb
        split at hf
        · rename_i y0 y1 y2 y3 y4 e0 e1 e2 e3 e4 e5
          exact ⟨_, (sub_cons e0 (sub_cons e1 (sub_cons e2 (sub_cons e3 (sub_cons e4 (sub_cons e5 sub_nil)))))), (E_M_count_35 N n _ _ _ _ _ h).trans hf⟩
        · cases hf
      · skip
        split at hf
        · rename_i hb
          have hb := Nat.eq_of_beq_eq_true hb
          subst hb
          split at hf
          · rename_i y0 y1 y2 y3 y4 y5 e0 e1 e2 e3 e4 e5 e6
            exact ⟨_, (sub_cons e0 (sub_cons e1 (sub_cons e2 (sub_cons e3 (sub_cons e4 (sub_cons e5 (sub_cons e6 sub_nil))))))), (E_M_count_80 N n _ _ _ _ _ _ h).trans hf⟩
          · cases hf
        · skip
          split at hf
          · rename_i hb
            have hb := Nat.eq_of_beq_eq_true hb
            subst hb
            split at hf
            · rename_i y0 y1 y2 y3 y4 e0 e1 e2 e3 e4 e5
              exact ⟨_, (sub_cons e0 (sub_cons e1 (sub_cons e2 (sub_cons e3 (sub_cons e4 (sub_cons e5 sub_nil)))))), (E_M_count_109 N n _ _ _ _ _ h).trans hf⟩
            · cases hf
          · skip
            cases hf
theorem hM_M_count (N : Nat) {r : Int64 × MH} : ∀ n pc lv st h, D_M_count N n pc lv st h = some r → pc < 135 := by
  intro n pc lv st h hf
  unfold D_M_count at hf
  split at hf
  · rename_i hb
    rw [Nat.eq_of_beq_eq_true hb]
    decide
  · skip
    split at hf
    · rename_i hb
      rw [Nat.eq_of_beq_eq_true hb]
      decide
    · skip
      split at hf
      · rename_i hb
        rw [Nat.eq_of_beq_eq_true hb]
        decide
      · skip
        split at hf
        · rename_i hb
          rw [Nat.eq_of_beq_eq_true hb]
          decide
        · skip
          split at hf
          · rename_i hb
            rw [Nat.eq_of_beq_eq_true hb]
            decide
          · skip
            cases hf
theorem hB_M_count (N : Nat) {r : Int64 × MH} : ∀ n pc lv st h, B_M_count N n pc lv st h = some r → ∃ k, n = k + 1 ∧ D_M_count N k pc lv st h = some r := by
  intro n pc lv st h hf
  unfold B_M_count at hf
  split at hf
  · rename_i hb
    have hb := Nat.eq_of_beq_eq_true hb
    subst hb
    cases n with
    | zero =>
      split at hf
      · cases hf
      · cases hf
    | succ k =>
      refine ⟨k, rfl, ?_⟩
      exact hf
  · skip
    split at hf
    · rename_i hb
      have hb := Nat.eq_of_beq_eq_true hb
      subst hb
      cases n with
      | zero =>
        split at hf
        · cases hf
        · cases hf
      | succ k =>
        refine ⟨k, rfl, ?_⟩
        exact hf
    · skip
      split at hf
      · rename_i hb
        have hb := Nat.eq_of_beq_eq_true hb
        subst hb
        cases n with
        | zero =>
          split at hf
          · cases hf
          · cases hf
        | succ k =>
          refine ⟨k, rfl, ?_⟩
          exact hf
      · skip
        cases hf
theorem s_M_count {l : Launch} {E : EV} {N : Nat} {as : List MV} {h : MH} {r : Int64 × MH} (hf : w_M_count (f_M_count N) as h = some r) : SndM l E false 2 233 as h (some (.inr (.inl r.1))) r.2 := by
  unfold w_M_count at hf
  split at hf
  · obtain ⟨m1, m2, m3, m4⟩ := mx_M_count
    refine snd_of (C := C_M_count N) (own := 12) (rz := 0) (lim := 115) rJ_eq m2 m4 pl_233 (TB_in _ cw_233 rfl) ⟨(fun _ => ⟨_, _, _, _, _, _, rfl, rfl, by rw [m4]; rfl⟩), (fun z => by rw [m3] at z; cases z)⟩ (fun z => by cases z) KDL_take rfl rfl (fun z => by cases z) (fun z => by cases z) (fun _ => rfl) (by rw [m1]; exact Nat.le_of_ble_eq_true rfl)
      (fun j as h x z => by
      dsimp only [C_M_count] at z
      cases hb : Nat.beq j 228 with
      | true =>
        have hb := Nat.eq_of_beq_eq_true hb
        subst hb
        exact ⟨0, by decide, (fun z => by cases z), s_M_rowsOfSlips z⟩
      | false =>
        rw [hb] at z
        dsimp only at z
        cases hb : Nat.beq j 230 with
        | true =>
          have hb := Nat.eq_of_beq_eq_true hb
          subst hb
          exact ⟨1, by decide, (fun z => by cases z), s_M_bend z⟩
        | false =>
          rw [hb] at z
          dsimp only at z
          cases hb : Nat.beq j 231 with
          | true =>
            have hb := Nat.eq_of_beq_eq_true hb
            subst hb
            exact ⟨0, by decide, (fun z => by cases z), s_M_fitting z⟩
          | false =>
            rw [hb] at z
            dsimp only at z
            cases hb : Nat.beq j 232 with
            | true =>
              have hb := Nat.eq_of_beq_eq_true hb
              subst hb
              exact ⟨0, by decide, (fun z => by cases z), s_M_sumOf z⟩
            | false =>
              rw [hb] at z
              dsimp only at z
              cases z)
      (fun _ _ _ _ z => by cases z)
      (fun _ _ _ _ z => by cases z)
      (fun j as h x z => by
      dsimp only [C_M_count] at z
      cases hb : Nat.beq j 229 with
      | true =>
        have hb := Nat.eq_of_beq_eq_true hb
        subst hb
        exact ⟨0, by decide, (fun z => by cases z), s_M_lay z⟩
      | false =>
        rw [hb] at z
        dsimp only at z
        cases z)
      (fun p e R s m args below meth c Q n0 F hret => ?_)
    rw [m1] at F hret ⊢
    rw [mc_M_count] at F hret
    exact cuts_s (K := 400) (M := 135) (D := D_M_count N) (B := B_M_count N) F hret (chkT_ok chk_M_count) (hM_M_count N) (hB_M_count N) (hD_M_count N) N 0 _ _ _ hf
  · cases hf
def T_M_areYears : List (List (Option RW)) := [
  [some (.iload_n 0, 1, [0], 0, 0), some (.invokestatic 369, 3, [2, 209, 1, 0], 0, 0), none, none, some (.ifCond .eq 19, 3, [23], 0, 0), none, none, some (.iload_n 1, 1, [1], 0, 0), some (.invokestatic 369, 3, [2, 209, 1, 0], 0, 0), none, none, some (.ifCond .eq 12, 3, [23], 0, 0), none, none, some (.iload_n 0, 1, [0], 0, 0), some (.iload_n 1, 1, [1], 0, 0), some (.if_icmp .ge 7, 3, [23], 0, 0), none, none, some (.iconst 1, 1, [], 1, 0), some (.goto 4, 3, [24], 0, 0), none, none, some (.iconst 0, 1, [], 0, 0), some (.ireturn, 1, [], 0, 0)]]
def f_M_areYears (N : Nat) (a0 : Int32) (a1 : Int32) (h : MH) : Option (Int32 × MH) :=
  (f_M_isYear N a0 h).bind (fun x1 =>
  if x1.1 = 0 then
  (some (0, x1.2))
  else
  ((f_M_isYear N a1 x1.2).bind (fun x2 =>
  if x2.1 = 0 then
  (some (0, x2.2))
  else
  (if a1 ≤ a0 then
  (some (0, x2.2))
  else
  (some (1, x2.2))))))
def C_M_areYears (N : Nat) : MC := (KDL, false, (fun _ => 0), jsB, (fun j => match Nat.beq j 209 with
    | true => w_M_isYear (f_M_isYear N)
    | false => fun _ _ => none), (fun _ _ _ => none), (fun _ _ _ => none), (fun _ _ _ => none))
def D_M_areYears (N : Nat) (n pc : Nat) (lv : ML) (st : List MV) (h : MH) : Option (Int32 × MH) :=
  match Nat.beq pc 0 with
  | true => (match lk lv 0, lk lv 1, st with
    | some (.inl a0), some (.inl a1), [] => f_M_areYears N a0 a1 h
    | _, _, _ => none)
  | false => none
set_option maxRecDepth 1000000 in
theorem E_M_areYears_0 (N : Nat) (n : Nat) (a0 : Int32) (a1 : Int32) (h : MH) : seg (C_M_areYears N) 2 1 rI T_M_areYears [0] (fun q lv st h => match Nat.ble 1 q with
    | true => D_M_areYears N n q lv st h
    | false => none) 400 true 0 [(0, .inl a0), (1, .inl a1)] [] h = f_M_areYears N a0 a1 h := (rfl)
set_option maxRecDepth 1000000 in
theorem chk_M_areYears : chkT 12 false prog_14_method_72_code T_M_areYears = true := by decide +kernel
theorem mc_M_areYears : mC 234 = prog_14_method_72_code := by rfl
theorem mx_M_areYears : mL 234 = 2 ∧ mR 234 = some .boolean ∧ mK 234 = 0 ∧ (mN 234).cls = cN 12 := by decide +kernel
theorem hD_M_areYears (N : Nat) {r : Int32 × MH} : ∀ n pc lv st h, D_M_areYears N n pc lv st h = some r → ∃ lv', (∀ q ∈ lv', q ∈ lv) ∧ seg (C_M_areYears N) 2 1 rI T_M_areYears [0] (fun q lv st h => match Nat.ble (pc + 1) q with
    | true => D_M_areYears N n q lv st h
    | false => none) 400 true pc lv' st h = some r := by
  intro n pc lv st h hf
  unfold D_M_areYears at hf
  split at hf
  · rename_i hb
    have hb := Nat.eq_of_beq_eq_true hb
    subst hb
    split at hf
    · rename_i y0 y1 e0 e1
      exact ⟨_, (sub_cons e0 (sub_cons e1 sub_nil)), (E_M_areYears_0 N n _ _ h).trans hf⟩
    · cases hf
  · skip
    cases hf
theorem hM_M_areYears (N : Nat) {r : Int32 × MH} : ∀ n pc lv st h, D_M_areYears N n pc lv st h = some r → pc < 25 := by
  intro n pc lv st h hf
  unfold D_M_areYears at hf
  split at hf
  · rename_i hb
    rw [Nat.eq_of_beq_eq_true hb]
    decide
  · skip
    cases hf
theorem s_M_areYears {l : Launch} {E : EV} {N : Nat} {as : List MV} {h : MH} {r : Int32 × MH} (hf : w_M_areYears (f_M_areYears N) as h = some r) : SndM l E false 1 234 as h (some (.inl r.1)) r.2 := by
  unfold w_M_areYears at hf
  split at hf
  · obtain ⟨m1, m2, m3, m4⟩ := mx_M_areYears
    refine snd_of (C := C_M_areYears N) (own := 12) (rz := 1) (lim := 115) rI_eq m2 m4 pl_234 (TB_in _ cw_234 rfl) ⟨(fun z => by rw [m3] at z; cases z), (fun z => by rw [m3] at z; cases z)⟩ (fun z => by cases z) KDL_take rfl rfl (fun z => by cases z) (fun z => by cases z) (fun _ => rfl) (by rw [m1]; exact Nat.le_of_ble_eq_true rfl)
      (fun j as h x z => by
      dsimp only [C_M_areYears] at z
      cases hb : Nat.beq j 209 with
      | true =>
        have hb := Nat.eq_of_beq_eq_true hb
        subst hb
        exact ⟨0, by decide, (fun z => by cases z), s_M_isYear z⟩
      | false =>
        rw [hb] at z
        dsimp only at z
        cases z)
      (fun _ _ _ _ z => by cases z)
      (fun _ _ _ _ z => by cases z)
      (fun _ _ _ _ z => by cases z)
      (fun p e R s m args below meth c Q n0 F hret => ?_)
    rw [m1] at F hret ⊢
    rw [mc_M_areYears] at F hret
    exact cuts_s (K := 400) (M := 25) (D := D_M_areYears N) (B := fun _ _ _ _ _ => none) F hret (chkT_ok chk_M_areYears) (hM_M_areYears N) (fun _ _ _ _ _ z => by cases z) (hD_M_areYears N) N 0 _ _ _ hf
  · cases hf
def T_M_areCells : List (List (Option RW)) := [
  [some (.iload_n 1, 1, [1], 0, 0), some (.iconst 1, 1, [], 1, 0), some (.if_icmp .lt 17, 3, [19], 0, 0), none, none, some (.iload_n 1, 1, [1], 0, 0), some (.iconst 1, 1, [], 1, 0), some (.aload_n 0, 1, [0], 0, 0), some (.getfield 348, 3, [12, 32, 0], 0, 0), none, none, some (.ishl, 1, [], 0, 0), some (.if_icmp .ge 7, 3, [19], 0, 0), none, none, some (.iconst 1, 1, [], 1, 0), some (.goto 4, 3, [20], 0, 0), none, none, some (.iconst 0, 1, [], 0, 0), some (.ireturn, 1, [], 0, 0)]]
def f_M_areCells (N : Nat) (a1 : Int32) (h : MH) : Option (Int32 × MH) :=
  if a1 < 1 then
  (some (0, h))
  else
  (if ((1 : Int32) <<< ((gI h 68 32) &&& 31)) ≤ a1 then
  (some (0, h))
  else
  (some (1, h)))
def C_M_areCells (N : Nat) : MC := (KDL, false, (fun _ => 0), jsB, (fun _ _ _ => none), (fun _ _ _ => none), (fun _ _ _ => none), (fun _ _ _ => none))
def D_M_areCells (N : Nat) (n pc : Nat) (lv : ML) (st : List MV) (h : MH) : Option (Int32 × MH) :=
  match Nat.beq pc 0 with
  | true => (match lk lv 0, lk lv 1, st with
    | some (.inr (.inr (0, 12, 68))), some (.inl a1), [] => f_M_areCells N a1 h
    | _, _, _ => none)
  | false => none
set_option maxRecDepth 1000000 in
theorem E_M_areCells_0 (N : Nat) (n : Nat) (a1 : Int32) (h : MH) : seg (C_M_areCells N) 2 1 rI T_M_areCells [0] (fun q lv st h => match Nat.ble 1 q with
    | true => D_M_areCells N n q lv st h
    | false => none) 400 true 0 [(0, .inr (.inr (0, 12, 68))), (1, .inl a1)] [] h = f_M_areCells N a1 h := (rfl)
set_option maxRecDepth 1000000 in
theorem chk_M_areCells : chkT 12 false prog_14_method_73_code T_M_areCells = true := by decide +kernel
theorem mc_M_areCells : mC 235 = prog_14_method_73_code := by rfl
theorem mx_M_areCells : mL 235 = 2 ∧ mR 235 = some .boolean ∧ mK 235 = 1 ∧ (mN 235).cls = cN 12 := by decide +kernel
theorem hD_M_areCells (N : Nat) {r : Int32 × MH} : ∀ n pc lv st h, D_M_areCells N n pc lv st h = some r → ∃ lv', (∀ q ∈ lv', q ∈ lv) ∧ seg (C_M_areCells N) 2 1 rI T_M_areCells [0] (fun q lv st h => match Nat.ble (pc + 1) q with
    | true => D_M_areCells N n q lv st h
    | false => none) 400 true pc lv' st h = some r := by
  intro n pc lv st h hf
  unfold D_M_areCells at hf
  split at hf
  · rename_i hb
    have hb := Nat.eq_of_beq_eq_true hb
    subst hb
    split at hf
    · rename_i y0 e0 e1
      exact ⟨_, (sub_cons e0 (sub_cons e1 sub_nil)), (E_M_areCells_0 N n _ h).trans hf⟩
    · cases hf
  · skip
    cases hf
theorem hM_M_areCells (N : Nat) {r : Int32 × MH} : ∀ n pc lv st h, D_M_areCells N n pc lv st h = some r → pc < 21 := by
  intro n pc lv st h hf
  unfold D_M_areCells at hf
  split at hf
  · rename_i hb
    rw [Nat.eq_of_beq_eq_true hb]
    decide
  · skip
    cases hf
theorem s_M_areCells {l : Launch} {E : EV} {N : Nat} {as : List MV} {h : MH} {r : Int32 × MH} (hf : w_M_areCells (f_M_areCells N) as h = some r) : SndM l E false 0 235 as h (some (.inl r.1)) r.2 := by
  unfold w_M_areCells at hf
  split at hf
  · obtain ⟨m1, m2, m3, m4⟩ := mx_M_areCells
    refine snd_of (C := C_M_areCells N) (own := 12) (rz := 1) (lim := 115) rI_eq m2 m4 pl_235 (TB_in _ cw_235 rfl) ⟨(fun _ => ⟨_, _, _, _, _, _, rfl, rfl, by rw [m4]; rfl⟩), (fun z => by rw [m3] at z; cases z)⟩ (fun z => by cases z) KDL_take rfl rfl (fun z => by cases z) (fun z => by cases z) (fun _ => rfl) (by rw [m1]; exact Nat.le_of_ble_eq_true rfl)
      (fun _ _ _ _ z => by cases z)
      (fun _ _ _ _ z => by cases z)
      (fun _ _ _ _ z => by cases z)
      (fun _ _ _ _ z => by cases z)
      (fun p e R s m args below meth c Q n0 F hret => ?_)
    rw [m1] at F hret ⊢
    rw [mc_M_areCells] at F hret
    exact cuts_s (K := 400) (M := 21) (D := D_M_areCells N) (B := fun _ _ _ _ _ => none) F hret (chkT_ok chk_M_areCells) (hM_M_areCells N) (fun _ _ _ _ _ z => by cases z) (hD_M_areCells N) N 0 _ _ _ hf
  · cases hf
def T_M_slips : List (List (Option RW)) := [
  [some (.iload_n 1, 1, [1], 0, 0), some (.iload_n 2, 1, [2], 0, 0), some (.invokestatic 451, 3, [2, 234, 2, 0], 0, 0), none, none, some (.ifCond .ne 9, 3, [14], 0, 0), none, none, some (.aload_n 0, 1, [0], 0, 0), some (.iconst 1, 1, [], 1, 0), some (.invokevirtual 342, 3, [0, 168, 2, 0], 0, 0), none, none, some (.ireturn, 1, [], 0, 0), some (.aload_n 0, 1, [0], 0, 0), some (.getfield 348, 3, [12, 32, 0], 0, 0), none, none, some (.ifCond .ne 10, 3, [28], 0, 0), none, none, some (.aload_n 0, 1, [0], 0, 0), some (.bipush 6, 2, [], 6, 0), none, some (.invokevirtual 342, 3, [0, 168, 2, 0], 0, 0), none, none, some (.ireturn, 1, [], 0, 0), some (.aload_n 0, 1, [0], 0, 0), some (.iload_n 1, 1, [1], 0, 0), some (.iload_n 2, 1, [2], 0, 0), some (.invokevirtual 454, 3, [0, 227, 3, 3], 0, 0)],
  [none, none, some (.aload_n 0, 1, [0], 0, 0), some (.aload_n 0, 1, [0], 0, 0), some (.aload_n 0, 1, [0], 0, 0), some (.getfield 427, 3, [12, 67, 0], 0, 0), none, none, some (.iconst 0, 1, [], 0, 0), some (.invokevirtual 458, 3, [0, 233, 3, 1], 0, 0), none, none, some (.l2i, 1, [], 0, 0), some (.invokevirtual 180, 3, [0, 169, 2, 0], 0, 0), none, none, some (.ireturn, 1, [], 0, 0)]]
def f_M_slips (N : Nat) (a1 : Int32) (a2 : Int32) (h : MH) : Option (Int32 × MH) :=
  (f_M_areYears N a1 a2 h).bind (fun x1 =>
  if x1.1 = 0 then
  ((f_M_refuse N 1 x1.2).bind (fun x2 =>
  some (x2.1, x2.2)))
  else
  (if (gI x1.2 68 32) = 0 then
  ((f_M_refuse N 6 x1.2).bind (fun x3 =>
  some (x3.1, x3.2)))
  else
  ((f_M_see N a1 a2 x1.2).bind (fun x4 =>
  (f_M_count N (gI x4 68 67) 0 x4).bind (fun x5 =>
  (f_M_gives N (Int64.toInt32 x5.1) x5.2).bind (fun x6 =>
  some (x6.1, x6.2)))))))
def C_M_slips (N : Nat) : MC := (KDL, false, (fun _ => 0), jsB, (fun j => match Nat.beq j 168 with
    | true => w_M_refuse (f_M_refuse N)
    | false => match Nat.beq j 169 with
    | true => w_M_gives (f_M_gives N)
    | false => match Nat.beq j 234 with
    | true => w_M_areYears (f_M_areYears N)
    | false => fun _ _ => none), (fun j => match Nat.beq j 233 with
    | true => w_M_count (f_M_count N)
    | false => fun _ _ => none), (fun _ _ _ => none), (fun j => match Nat.beq j 227 with
    | true => w_M_see (f_M_see N)
    | false => fun _ _ => none))
def D_M_slips (N : Nat) (n pc : Nat) (lv : ML) (st : List MV) (h : MH) : Option (Int32 × MH) :=
  match Nat.beq pc 0 with
  | true => (match lk lv 0, lk lv 1, lk lv 2, st with
    | some (.inr (.inr (0, 12, 68))), some (.inl a1), some (.inl a2), [] => f_M_slips N a1 a2 h
    | _, _, _, _ => none)
  | false => none
set_option maxRecDepth 1000000 in
theorem E_M_slips_0 (N : Nat) (n : Nat) (a1 : Int32) (a2 : Int32) (h : MH) : seg (C_M_slips N) 3 0 rI T_M_slips [0] (fun q lv st h => match Nat.ble 1 q with
    | true => D_M_slips N n q lv st h
    | false => none) 400 true 0 [(0, .inr (.inr (0, 12, 68))), (1, .inl a1), (2, .inl a2)] [] h = f_M_slips N a1 a2 h := (rfl)
set_option maxRecDepth 1000000 in
theorem chk_M_slips : chkT 12 false prog_14_method_74_code T_M_slips = true := by decide +kernel
theorem mc_M_slips : mC 236 = prog_14_method_74_code := by rfl
theorem mx_M_slips : mL 236 = 3 ∧ mR 236 = some .int ∧ mK 236 = 1 ∧ (mN 236).cls = cN 12 := by decide +kernel
theorem hD_M_slips (N : Nat) {r : Int32 × MH} : ∀ n pc lv st h, D_M_slips N n pc lv st h = some r → ∃ lv', (∀ q ∈ lv', q ∈ lv) ∧ seg (C_M_slips N) 3 0 rI T_M_slips [0] (fun q lv st h => match Nat.ble (pc + 1) q with
    | true => D_M_slips N n q lv st h
    | false => none) 400 true pc lv' st h = some r := by
  intro n pc lv st h hf
  unfold D_M_slips at hf
  split at hf
  · rename_i hb
    have hb := Nat.eq_of_beq_eq_true hb
    subst hb
    split at hf
    · rename_i y0 y1 e0 e1 e2
      exact ⟨_, (sub_cons e0 (sub_cons e1 (sub_cons e2 sub_nil))), (E_M_slips_0 N n _ _ h).trans hf⟩
    · cases hf
  · skip
    cases hf
theorem hM_M_slips (N : Nat) {r : Int32 × MH} : ∀ n pc lv st h, D_M_slips N n pc lv st h = some r → pc < 49 := by
  intro n pc lv st h hf
  unfold D_M_slips at hf
  split at hf
  · rename_i hb
    rw [Nat.eq_of_beq_eq_true hb]
    decide
  · skip
    cases hf
theorem s_M_slips {l : Launch} {E : EV} {N : Nat} {as : List MV} {h : MH} {r : Int32 × MH} (hf : w_M_slips (f_M_slips N) as h = some r) : SndM l E false 3 236 as h (some (.inl r.1)) r.2 := by
  unfold w_M_slips at hf
  split at hf
  · obtain ⟨m1, m2, m3, m4⟩ := mx_M_slips
    refine snd_of (C := C_M_slips N) (own := 12) (rz := 0) (lim := 115) rI_eq m2 m4 pl_236 (TB_in _ cw_236 rfl) ⟨(fun _ => ⟨_, _, _, _, _, _, rfl, rfl, by rw [m4]; rfl⟩), (fun z => by rw [m3] at z; cases z)⟩ (fun z => by cases z) KDL_take rfl rfl (fun z => by cases z) (fun z => by cases z) (fun _ => rfl) (by rw [m1]; exact Nat.le_of_ble_eq_true rfl)
      (fun j as h x z => by
      dsimp only [C_M_slips] at z
      cases hb : Nat.beq j 168 with
      | true =>
        have hb := Nat.eq_of_beq_eq_true hb
        subst hb
        exact ⟨0, by decide, (fun z => by cases z), s_M_refuse z⟩
      | false =>
        rw [hb] at z
        dsimp only at z
        cases hb : Nat.beq j 169 with
        | true =>
          have hb := Nat.eq_of_beq_eq_true hb
          subst hb
          exact ⟨0, by decide, (fun z => by cases z), s_M_gives z⟩
        | false =>
          rw [hb] at z
          dsimp only at z
          cases hb : Nat.beq j 234 with
          | true =>
            have hb := Nat.eq_of_beq_eq_true hb
            subst hb
            exact ⟨1, by decide, (fun z => by cases z), s_M_areYears z⟩
          | false =>
            rw [hb] at z
            dsimp only at z
            cases z)
      (fun j as h x z => by
      dsimp only [C_M_slips] at z
      cases hb : Nat.beq j 233 with
      | true =>
        have hb := Nat.eq_of_beq_eq_true hb
        subst hb
        exact ⟨2, by decide, (fun z => by cases z), s_M_count z⟩
      | false =>
        rw [hb] at z
        dsimp only at z
        cases z)
      (fun _ _ _ _ z => by cases z)
      (fun j as h x z => by
      dsimp only [C_M_slips] at z
      cases hb : Nat.beq j 227 with
      | true =>
        have hb := Nat.eq_of_beq_eq_true hb
        subst hb
        exact ⟨1, by decide, (fun z => by cases z), s_M_see z⟩
      | false =>
        rw [hb] at z
        dsimp only at z
        cases z)
      (fun p e R s m args below meth c Q n0 F hret => ?_)
    rw [m1] at F hret ⊢
    rw [mc_M_slips] at F hret
    exact cuts_s (K := 400) (M := 49) (D := D_M_slips N) (B := fun _ _ _ _ _ => none) F hret (chkT_ok chk_M_slips) (hM_M_slips N) (fun _ _ _ _ _ z => by cases z) (hD_M_slips N) N 0 _ _ _ hf
  · cases hf
def T_M_ends : List (List (Option RW)) := [
  [some (.iload_n 1, 1, [1], 0, 0), some (.iload_n 2, 1, [2], 0, 0), some (.invokestatic 451, 3, [2, 234, 2, 0], 0, 0), none, none, some (.ifCond .eq 22, 3, [27], 0, 0), none, none, some (.aload_n 0, 1, [0], 0, 0), some (.iload_n 3, 1, [3], 0, 0), some (.invokevirtual 462, 3, [0, 235, 2, 0], 0, 0), none, none, some (.ifCond .eq 14, 3, [27], 0, 0), none, none, some (.iload 4, 2, [4], 0, 0), none, some (.ifCond .lt 9, 3, [27], 0, 0), none, none, some (.iload 4, 2, [4], 0, 0), none, some (.iconst 1, 1, [], 1, 0), some (.if_icmp .le 9, 3, [33], 0, 0), none, none, some (.aload_n 0, 1, [0], 0, 0), some (.iconst 1, 1, [], 1, 0), some (.invokevirtual 342, 3, [0, 168, 2, 0], 0, 0), none, none],
  [some (.ireturn, 1, [], 0, 0), some (.aload_n 0, 1, [0], 0, 0), some (.iload_n 1, 1, [1], 0, 0), some (.iload_n 2, 1, [2], 0, 0), some (.invokevirtual 454, 3, [0, 227, 3, 3], 0, 0), none, none, some (.aload_n 0, 1, [0], 0, 0), some (.aload_n 0, 1, [0], 0, 0), some (.getfield 427, 3, [12, 67, 0], 0, 0), none, none, some (.iload_n 3, 1, [3], 0, 0), some (.invokevirtual 458, 3, [0, 233, 3, 1], 0, 0), none, none, some (.lconst 0, 1, [], 0, 0), some (.lcmp, 1, [], 0, 0), some (.ifCond .ne 10, 3, [60], 0, 0), none, none, some (.aload_n 0, 1, [0], 0, 0), some (.bipush 6, 2, [], 6, 0), none, some (.invokevirtual 342, 3, [0, 168, 2, 0], 0, 0), none, none, some (.ireturn, 1, [], 0, 0), some (.iconst (-1), 1, [], (-1), 0), some (.istore 5, 2, [5], 0, 0), none, some (.iconst 0, 1, [], 0, 0)],
  [some (.istore 6, 2, [6], 0, 0), none, some (.iload 6, 2, [6], 0, 0), none, some (.bipush 55, 2, [], 55, 0), none, some (.if_icmp .ge 37, 3, [107], 0, 0), none, none, some (.aload_n 0, 1, [0], 0, 0), some (.getfield 144, 3, [12, 72, 2, 2, 55, 39], 0, 0), none, none, some (.iload 6, 2, [6], 0, 0), none, some (.laload, 1, [], 0, 0), some (.lconst 0, 1, [], 0, 0), some (.lcmp, 1, [], 0, 0), some (.ifCond .le 19, 3, [101], 0, 0), none, none, some (.iload 5, 2, [5], 0, 0), none, some (.iconst (-1), 1, [], (-1), 0), some (.if_icmp .eq 9, 3, [97], 0, 0), none, none, some (.iload 4, 2, [4], 0, 0), none, some (.iconst 1, 1, [], 1, 0), some (.if_icmp .ne 7, 3, [101], 0, 0), none],
  [none, some (.iload 6, 2, [6], 0, 0), none, some (.istore 5, 2, [5], 0, 0), none, some (.iinc 6 1, 3, [6], 1, 0), none, none, some (.goto (-38), 3, [66], 0, 0), none, none, some (.aload_n 0, 1, [0], 0, 0), some (.iload 5, 2, [5], 0, 0), none, some (.invokevirtual 180, 3, [0, 169, 2, 0], 0, 0), none, none, some (.ireturn, 1, [], 0, 0)]]
def F_M_ends_66 (N : Nat) (bk : (Int32 → Int32 → Int32 → MH → Option (Int32 × MH))) (a4 : Int32) (a5 : Int32) (a6 : Int32) (h : MH) : Option (Int32 × MH) :=
  if 55 ≤ a6 then
  ((f_M_gives N a5 h).bind (fun x10 =>
  some (x10.1, x10.2)))
  else
  (if inB a6 55 = true then
  (if (lg_cmp (gJ h 107 (iN a6)) 0) ≤ 0 then
  (let v11 : Int32 := a6 + 1
  bk a4 a5 v11 h)
  else
  (if a5 = ((-1)) then
  (let v12 : Int32 := a6 + 1
  bk a4 a6 v12 h)
  else
  (if a4 = 1 then
  (let v13 : Int32 := a6 + 1
  bk a4 a6 v13 h)
  else
  (let v14 : Int32 := a6 + 1
  bk a4 a5 v14 h))))
  else none)
def F_M_ends_0 (N : Nat) (bk : (Int32 → Int32 → Int32 → MH → Option (Int32 × MH))) (a1 : Int32) (a2 : Int32) (a3 : Int32) (a4 : Int32) (h : MH) : Option (Int32 × MH) :=
  (f_M_areYears N a1 a2 h).bind (fun x1 =>
  if x1.1 = 0 then
  ((f_M_refuse N 1 x1.2).bind (fun x2 =>
  some (x2.1, x2.2)))
  else
  ((f_M_areCells N a3 x1.2).bind (fun x3 =>
  if x3.1 = 0 then
  ((f_M_refuse N 1 x3.2).bind (fun x4 =>
  some (x4.1, x4.2)))
  else
  (if a4 < 0 then
  ((f_M_refuse N 1 x3.2).bind (fun x5 =>
  some (x5.1, x5.2)))
  else
  (if a4 ≤ 1 then
  ((f_M_see N a1 a2 x3.2).bind (fun x6 =>
  (f_M_count N (gI x6 68 67) a3 x6).bind (fun x7 =>
  if (lg_cmp x7.1 0) = 0 then
  ((f_M_refuse N 6 x7.2).bind (fun x8 =>
  some (x8.1, x8.2)))
  else
  (F_M_ends_66 N bk a4 ((-1)) 0 x7.2))))
  else
  ((f_M_refuse N 1 x3.2).bind (fun x9 =>
  some (x9.1, x9.2))))))))
def L_M_ends (N : Nat) : Nat → (Int32 → Int32 → Int32 → MH → Option (Int32 × MH))
  | 0 => fun _ _ _ _ => none
  | n + 1 => F_M_ends_66 N (L_M_ends N n)
def f_M_ends (N : Nat) (a1 : Int32) (a2 : Int32) (a3 : Int32) (a4 : Int32) (h : MH) : Option (Int32 × MH) := F_M_ends_0 N (L_M_ends N N) a1 a2 a3 a4 h
def C_M_ends (N : Nat) : MC := (KDL, false, (fun _ => 0), jsB, (fun j => match Nat.beq j 168 with
    | true => w_M_refuse (f_M_refuse N)
    | false => match Nat.beq j 169 with
    | true => w_M_gives (f_M_gives N)
    | false => match Nat.beq j 234 with
    | true => w_M_areYears (f_M_areYears N)
    | false => match Nat.beq j 235 with
    | true => w_M_areCells (f_M_areCells N)
    | false => fun _ _ => none), (fun j => match Nat.beq j 233 with
    | true => w_M_count (f_M_count N)
    | false => fun _ _ => none), (fun _ _ _ => none), (fun j => match Nat.beq j 227 with
    | true => w_M_see (f_M_see N)
    | false => fun _ _ => none))
def D_M_ends (N : Nat) (n pc : Nat) (lv : ML) (st : List MV) (h : MH) : Option (Int32 × MH) :=
  match Nat.beq pc 0 with
  | true => (match lk lv 0, lk lv 1, lk lv 2, lk lv 3, lk lv 4, st with
    | some (.inr (.inr (0, 12, 68))), some (.inl a1), some (.inl a2), some (.inl a3), some (.inl a4), [] => F_M_ends_0 N (L_M_ends N n) a1 a2 a3 a4 h
    | _, _, _, _, _, _ => none)
  | false => match Nat.beq pc 66 with
  | true => (match lk lv 0, lk lv 4, lk lv 5, lk lv 6, st with
    | some (.inr (.inr (0, 12, 68))), some (.inl a4), some (.inl a5), some (.inl a6), [] => F_M_ends_66 N (L_M_ends N n) a4 a5 a6 h
    | _, _, _, _, _ => none)
  | false => none
def B_M_ends (N : Nat) (n pc : Nat) (lv : ML) (st : List MV) (h : MH) : Option (Int32 × MH) :=
  match Nat.beq pc 66 with
  | true => (match lk lv 0, lk lv 4, lk lv 5, lk lv 6, st with
    | some (.inr (.inr (0, 12, 68))), some (.inl a4), some (.inl a5), some (.inl a6), [] => ((L_M_ends N n)) a4 a5 a6 h
    | _, _, _, _, _ => none)
  | false => none
set_option maxRecDepth 1000000 in
theorem E_M_ends_0 (N : Nat) (n : Nat) (a1 : Int32) (a2 : Int32) (a3 : Int32) (a4 : Int32) (h : MH) : seg (C_M_ends N) 7 0 rI T_M_ends [0, 66] (fun q lv st h => match Nat.ble 1 q with
    | true => D_M_ends N n q lv st h
    | false => B_M_ends N n q lv st h) 400 true 0 [(0, .inr (.inr (0, 12, 68))), (1, .inl a1), (2, .inl a2), (3, .inl a3), (4, .inl a4)] [] h = F_M_ends_0 N (L_M_ends N n) a1 a2 a3 a4 h := (rfl)
set_option maxRecDepth 1000000 in
theorem E_M_ends_66 (N : Nat) (n : Nat) (a4 : Int32) (a5 : Int32) (a6 : Int32) (h : MH) : seg (C_M_ends N) 7 0 rI T_M_ends [0, 66] (fun q lv st h => match Nat.ble 67 q with
    | true => D_M_ends N n q lv st h
    | false => B_M_ends N n q lv st h) 400 true 66 [(0, .inr (.inr (0, 12, 68))), (4, .inl a4), (5, .inl a5), (6, .inl a6)] [] h = F_M_ends_66 N (L_M_ends N n) a4 a5 a6 h := (rfl)
set_option maxRecDepth 1000000 in
theorem chk_M_ends : chkT 12 false prog_14_method_75_code T_M_ends = true := by decide +kernel
theorem mc_M_ends : mC 237 = prog_14_method_75_code := by rfl
theorem mx_M_ends : mL 237 = 7 ∧ mR 237 = some .int ∧ mK 237 = 1 ∧ (mN 237).cls = cN 12 := by decide +kernel
theorem hD_M_ends (N : Nat) {r : Int32 × MH} : ∀ n pc lv st h, D_M_ends N n pc lv st h = some r → ∃ lv', (∀ q ∈ lv', q ∈ lv) ∧ seg (C_M_ends N) 7 0 rI T_M_ends [0, 66] (fun q lv st h => match Nat.ble (pc + 1) q with
    | true => D_M_ends N n q lv st h
    | false => B_M_ends N n q lv st h) 400 true pc lv' st h = some r := by
  intro n pc lv st h hf
  unfold D_M_ends at hf
  split at hf
  · rename_i hb
    have hb := Nat.eq_of_beq_eq_true hb
    subst hb
    split at hf
    · rename_i y0 y1 y2 y3 e0 e1 e2 e3 e4
      exact ⟨_, (sub_cons e0 (sub_cons e1 (sub_cons e2 (sub_cons e3 (sub_cons e4 sub_nil))))), (E_M_ends_0 N n _ _ _ _ h).trans hf⟩
    · cases hf
  · skip
    split at hf
    · rename_i hb
      have hb := Nat.eq_of_beq_eq_true hb
      subst hb
      split at hf
      · rename_i y0 y1 y2 e0 e1 e2 e3
        exact ⟨_, (sub_cons e0 (sub_cons e1 (sub_cons e2 (sub_cons e3 sub_nil)))), (E_M_ends_66 N n _ _ _ h).trans hf⟩
      · cases hf
    · skip
      cases hf
theorem hM_M_ends (N : Nat) {r : Int32 × MH} : ∀ n pc lv st h, D_M_ends N n pc lv st h = some r → pc < 114 := by
  intro n pc lv st h hf
  unfold D_M_ends at hf
  split at hf
  · rename_i hb
    rw [Nat.eq_of_beq_eq_true hb]
    decide
  · skip
    split at hf
    · rename_i hb
      rw [Nat.eq_of_beq_eq_true hb]
      decide
    · skip
      cases hf
theorem hB_M_ends (N : Nat) {r : Int32 × MH} : ∀ n pc lv st h, B_M_ends N n pc lv st h = some r → ∃ k, n = k + 1 ∧ D_M_ends N k pc lv st h = some r := by
  intro n pc lv st h hf
  unfold B_M_ends at hf
  split at hf
  · rename_i hb
    have hb := Nat.eq_of_beq_eq_true hb
    subst hb
    cases n with
    | zero =>
      split at hf
      · cases hf
      · cases hf
    | succ k =>
      refine ⟨k, rfl, ?_⟩
      exact hf
  · skip
    cases hf
theorem s_M_ends {l : Launch} {E : EV} {N : Nat} {as : List MV} {h : MH} {r : Int32 × MH} (hf : w_M_ends (f_M_ends N) as h = some r) : SndM l E false 3 237 as h (some (.inl r.1)) r.2 := by
  unfold w_M_ends at hf
  split at hf
  · obtain ⟨m1, m2, m3, m4⟩ := mx_M_ends
    refine snd_of (C := C_M_ends N) (own := 12) (rz := 0) (lim := 115) rI_eq m2 m4 pl_237 (TB_in _ cw_237 rfl) ⟨(fun _ => ⟨_, _, _, _, _, _, rfl, rfl, by rw [m4]; rfl⟩), (fun z => by rw [m3] at z; cases z)⟩ (fun z => by cases z) KDL_take rfl rfl (fun z => by cases z) (fun z => by cases z) (fun _ => rfl) (by rw [m1]; exact Nat.le_of_ble_eq_true rfl)
      (fun j as h x z => by
      dsimp only [C_M_ends] at z
      cases hb : Nat.beq j 168 with
      | true =>
        have hb := Nat.eq_of_beq_eq_true hb
        subst hb
        exact ⟨0, by decide, (fun z => by cases z), s_M_refuse z⟩
      | false =>
        rw [hb] at z
        dsimp only at z
        cases hb : Nat.beq j 169 with
        | true =>
          have hb := Nat.eq_of_beq_eq_true hb
          subst hb
          exact ⟨0, by decide, (fun z => by cases z), s_M_gives z⟩
        | false =>
          rw [hb] at z
          dsimp only at z
          cases hb : Nat.beq j 234 with
          | true =>
            have hb := Nat.eq_of_beq_eq_true hb
            subst hb
            exact ⟨1, by decide, (fun z => by cases z), s_M_areYears z⟩
          | false =>
            rw [hb] at z
            dsimp only at z
            cases hb : Nat.beq j 235 with
            | true =>
              have hb := Nat.eq_of_beq_eq_true hb
              subst hb
              exact ⟨0, by decide, (fun z => by cases z), s_M_areCells z⟩
            | false =>
              rw [hb] at z
              dsimp only at z
              cases z)
      (fun j as h x z => by
      dsimp only [C_M_ends] at z
      cases hb : Nat.beq j 233 with
      | true =>
        have hb := Nat.eq_of_beq_eq_true hb
        subst hb
        exact ⟨2, by decide, (fun z => by cases z), s_M_count z⟩
      | false =>
        rw [hb] at z
        dsimp only at z
        cases z)
      (fun _ _ _ _ z => by cases z)
      (fun j as h x z => by
      dsimp only [C_M_ends] at z
      cases hb : Nat.beq j 227 with
      | true =>
        have hb := Nat.eq_of_beq_eq_true hb
        subst hb
        exact ⟨1, by decide, (fun z => by cases z), s_M_see z⟩
      | false =>
        rw [hb] at z
        dsimp only at z
        cases z)
      (fun p e R s m args below meth c Q n0 F hret => ?_)
    rw [m1] at F hret ⊢
    rw [mc_M_ends] at F hret
    exact cuts_s (K := 400) (M := 114) (D := D_M_ends N) (B := B_M_ends N) F hret (chkT_ok chk_M_ends) (hM_M_ends N) (hB_M_ends N) (hD_M_ends N) N 0 _ _ _ hf
  · cases hf
def T_M_first : List (List (Option RW)) := [
  [some (.iload_n 1, 1, [1], 0, 0), some (.iload_n 2, 1, [2], 0, 0), some (.invokestatic 451, 3, [2, 234, 2, 0], 0, 0), none, none, some (.ifCond .eq 11, 3, [16], 0, 0), none, none, some (.aload_n 0, 1, [0], 0, 0), some (.iload_n 3, 1, [3], 0, 0), some (.invokevirtual 363, 3, [0, 206, 2, 0], 0, 0), none, none, some (.ifCond .ne 9, 3, [22], 0, 0), none, none, some (.aload_n 0, 1, [0], 0, 0), some (.iconst 1, 1, [], 1, 0), some (.invokevirtual 342, 3, [0, 168, 2, 0], 0, 0), none, none, some (.ireturn, 1, [], 0, 0), some (.aload_n 0, 1, [0], 0, 0), some (.iload_n 1, 1, [1], 0, 0), some (.iload_n 2, 1, [2], 0, 0), some (.invokevirtual 454, 3, [0, 227, 3, 3], 0, 0), none, none, some (.aload_n 0, 1, [0], 0, 0), some (.aload_n 0, 1, [0], 0, 0), some (.getfield 427, 3, [12, 67, 0], 0, 0), none],
  [none, some (.iconst 0, 1, [], 0, 0), some (.invokevirtual 458, 3, [0, 233, 3, 1], 0, 0), none, none, some (.lconst 0, 1, [], 0, 0), some (.lcmp, 1, [], 0, 0), some (.ifCond .ne 12, 3, [51], 0, 0), none, none, some (.aload_n 0, 1, [0], 0, 0), some (.bipush 6, 2, [], 6, 0), none, some (.invokevirtual 342, 3, [0, 168, 2, 0], 0, 0), none, none, some (.goto 13, 3, [61], 0, 0), none, none, some (.aload_n 0, 1, [0], 0, 0), some (.aload_n 0, 1, [0], 0, 0), some (.getfield 147, 3, [12, 73, 2, 1, 6, 40], 0, 0), none, none, some (.iload_n 3, 1, [3], 0, 0), some (.iaload, 1, [], 0, 0), some (.invokevirtual 180, 3, [0, 169, 2, 0], 0, 0), none, none, some (.ireturn, 1, [], 0, 0)]]
def f_M_first (N : Nat) (a1 : Int32) (a2 : Int32) (a3 : Int32) (h : MH) : Option (Int32 × MH) :=
  (f_M_areYears N a1 a2 h).bind (fun x1 =>
  if x1.1 = 0 then
  ((f_M_refuse N 1 x1.2).bind (fun x2 =>
  some (x2.1, x2.2)))
  else
  ((f_M_isCell N a3 x1.2).bind (fun x3 =>
  if x3.1 = 0 then
  ((f_M_refuse N 1 x3.2).bind (fun x4 =>
  some (x4.1, x4.2)))
  else
  ((f_M_see N a1 a2 x3.2).bind (fun x5 =>
  (f_M_count N (gI x5 68 67) 0 x5).bind (fun x6 =>
  if (lg_cmp x6.1 0) = 0 then
  ((f_M_refuse N 6 x6.2).bind (fun x7 =>
  some (x7.1, x7.2)))
  else
  (if inB a3 6 = true then
  ((f_M_gives N (gI x6.2 108 (iN a3)) x6.2).bind (fun x8 =>
  some (x8.1, x8.2)))
  else none)))))))
def C_M_first (N : Nat) : MC := (KDL, false, (fun _ => 0), jsB, (fun j => match Nat.beq j 168 with
    | true => w_M_refuse (f_M_refuse N)
    | false => match Nat.beq j 169 with
    | true => w_M_gives (f_M_gives N)
    | false => match Nat.beq j 206 with
    | true => w_M_isCell (f_M_isCell N)
    | false => match Nat.beq j 234 with
    | true => w_M_areYears (f_M_areYears N)
    | false => fun _ _ => none), (fun j => match Nat.beq j 233 with
    | true => w_M_count (f_M_count N)
    | false => fun _ _ => none), (fun _ _ _ => none), (fun j => match Nat.beq j 227 with
    | true => w_M_see (f_M_see N)
    | false => fun _ _ => none))
def D_M_first (N : Nat) (n pc : Nat) (lv : ML) (st : List MV) (h : MH) : Option (Int32 × MH) :=
  match Nat.beq pc 0 with
  | true => (match lk lv 0, lk lv 1, lk lv 2, lk lv 3, st with
    | some (.inr (.inr (0, 12, 68))), some (.inl a1), some (.inl a2), some (.inl a3), [] => f_M_first N a1 a2 a3 h
    | _, _, _, _, _ => none)
  | false => none
set_option maxRecDepth 1000000 in
theorem E_M_first_0 (N : Nat) (n : Nat) (a1 : Int32) (a2 : Int32) (a3 : Int32) (h : MH) : seg (C_M_first N) 4 0 rI T_M_first [0] (fun q lv st h => match Nat.ble 1 q with
    | true => D_M_first N n q lv st h
    | false => none) 400 true 0 [(0, .inr (.inr (0, 12, 68))), (1, .inl a1), (2, .inl a2), (3, .inl a3)] [] h = f_M_first N a1 a2 a3 h := (rfl)
set_option maxRecDepth 1000000 in
theorem chk_M_first : chkT 12 false prog_14_method_76_code T_M_first = true := by decide +kernel
theorem mc_M_first : mC 238 = prog_14_method_76_code := by rfl
theorem mx_M_first : mL 238 = 4 ∧ mR 238 = some .int ∧ mK 238 = 1 ∧ (mN 238).cls = cN 12 := by decide +kernel
theorem hD_M_first (N : Nat) {r : Int32 × MH} : ∀ n pc lv st h, D_M_first N n pc lv st h = some r → ∃ lv', (∀ q ∈ lv', q ∈ lv) ∧ seg (C_M_first N) 4 0 rI T_M_first [0] (fun q lv st h => match Nat.ble (pc + 1) q with
    | true => D_M_first N n q lv st h
    | false => none) 400 true pc lv' st h = some r := by
  intro n pc lv st h hf
  unfold D_M_first at hf
  split at hf
  · rename_i hb
    have hb := Nat.eq_of_beq_eq_true hb
    subst hb
    split at hf
    · rename_i y0 y1 y2 e0 e1 e2 e3
      exact ⟨_, (sub_cons e0 (sub_cons e1 (sub_cons e2 (sub_cons e3 sub_nil)))), (E_M_first_0 N n _ _ _ h).trans hf⟩
    · cases hf
  · skip
    cases hf
theorem hM_M_first (N : Nat) {r : Int32 × MH} : ∀ n pc lv st h, D_M_first N n pc lv st h = some r → pc < 62 := by
  intro n pc lv st h hf
  unfold D_M_first at hf
  split at hf
  · rename_i hb
    rw [Nat.eq_of_beq_eq_true hb]
    decide
  · skip
    cases hf
theorem s_M_first {l : Launch} {E : EV} {N : Nat} {as : List MV} {h : MH} {r : Int32 × MH} (hf : w_M_first (f_M_first N) as h = some r) : SndM l E false 3 238 as h (some (.inl r.1)) r.2 := by
  unfold w_M_first at hf
  split at hf
  · obtain ⟨m1, m2, m3, m4⟩ := mx_M_first
    refine snd_of (C := C_M_first N) (own := 12) (rz := 0) (lim := 115) rI_eq m2 m4 pl_238 (TB_in _ cw_238 rfl) ⟨(fun _ => ⟨_, _, _, _, _, _, rfl, rfl, by rw [m4]; rfl⟩), (fun z => by rw [m3] at z; cases z)⟩ (fun z => by cases z) KDL_take rfl rfl (fun z => by cases z) (fun z => by cases z) (fun _ => rfl) (by rw [m1]; exact Nat.le_of_ble_eq_true rfl)
      (fun j as h x z => by
      dsimp only [C_M_first] at z
      cases hb : Nat.beq j 168 with
      | true =>
        have hb := Nat.eq_of_beq_eq_true hb
        subst hb
        exact ⟨0, by decide, (fun z => by cases z), s_M_refuse z⟩
      | false =>
        rw [hb] at z
        dsimp only at z
        cases hb : Nat.beq j 169 with
        | true =>
          have hb := Nat.eq_of_beq_eq_true hb
          subst hb
          exact ⟨0, by decide, (fun z => by cases z), s_M_gives z⟩
        | false =>
          rw [hb] at z
          dsimp only at z
          cases hb : Nat.beq j 206 with
          | true =>
            have hb := Nat.eq_of_beq_eq_true hb
            subst hb
            exact ⟨0, by decide, (fun z => by cases z), s_M_isCell z⟩
          | false =>
            rw [hb] at z
            dsimp only at z
            cases hb : Nat.beq j 234 with
            | true =>
              have hb := Nat.eq_of_beq_eq_true hb
              subst hb
              exact ⟨1, by decide, (fun z => by cases z), s_M_areYears z⟩
            | false =>
              rw [hb] at z
              dsimp only at z
              cases z)
      (fun j as h x z => by
      dsimp only [C_M_first] at z
      cases hb : Nat.beq j 233 with
      | true =>
        have hb := Nat.eq_of_beq_eq_true hb
        subst hb
        exact ⟨2, by decide, (fun z => by cases z), s_M_count z⟩
      | false =>
        rw [hb] at z
        dsimp only at z
        cases z)
      (fun _ _ _ _ z => by cases z)
      (fun j as h x z => by
      dsimp only [C_M_first] at z
      cases hb : Nat.beq j 227 with
      | true =>
        have hb := Nat.eq_of_beq_eq_true hb
        subst hb
        exact ⟨1, by decide, (fun z => by cases z), s_M_see z⟩
      | false =>
        rw [hb] at z
        dsimp only at z
        cases z)
      (fun p e R s m args below meth c Q n0 F hret => ?_)
    rw [m1] at F hret ⊢
    rw [mc_M_first] at F hret
    exact cuts_s (K := 400) (M := 62) (D := D_M_first N) (B := fun _ _ _ _ _ => none) F hret (chkT_ok chk_M_first) (hM_M_first N) (fun _ _ _ _ _ z => by cases z) (hD_M_first N) N 0 _ _ _ hf
  · cases hf
def T_M_corner : List (List (Option RW)) := [
  [some (.iload_n 1, 1, [1], 0, 0), some (.iload_n 2, 1, [2], 0, 0), some (.invokestatic 451, 3, [2, 234, 2, 0], 0, 0), none, none, some (.ifCond .ne 9, 3, [14], 0, 0), none, none, some (.aload_n 0, 1, [0], 0, 0), some (.iconst 1, 1, [], 1, 0), some (.invokevirtual 342, 3, [0, 168, 2, 0], 0, 0), none, none, some (.ireturn, 1, [], 0, 0), some (.aload_n 0, 1, [0], 0, 0), some (.getfield 348, 3, [12, 32, 0], 0, 0), none, none, some (.ifCond .ne 10, 3, [28], 0, 0), none, none, some (.aload_n 0, 1, [0], 0, 0), some (.bipush 6, 2, [], 6, 0), none, some (.invokevirtual 342, 3, [0, 168, 2, 0], 0, 0), none, none, some (.ireturn, 1, [], 0, 0), some (.aload_n 0, 1, [0], 0, 0), some (.iload_n 1, 1, [1], 0, 0), some (.iload_n 2, 1, [2], 0, 0), some (.invokevirtual 454, 3, [0, 227, 3, 3], 0, 0)],
  [none, none, some (.iconst (-1), 1, [], (-1), 0), some (.istore_n 3, 1, [3], 0, 0), some (.aload_n 0, 1, [0], 0, 0), some (.invokevirtual 436, 3, [0, 228, 1, 0], 0, 0), none, none, some (.istore 4, 2, [4], 0, 0), none, some (.iconst 0, 1, [], 0, 0), some (.istore 5, 2, [5], 0, 0), none, some (.iload 5, 2, [5], 0, 0), none, some (.iload 4, 2, [4], 0, 0), none, some (.if_icmp .ge 53, 3, [102], 0, 0), none, none, some (.aload_n 0, 1, [0], 0, 0), some (.iload 5, 2, [5], 0, 0), none, some (.invokevirtual 439, 3, [0, 229, 2, 3], 0, 0), none, none, some (.aload_n 0, 1, [0], 0, 0), some (.aload_n 0, 1, [0], 0, 0), some (.getfield 427, 3, [12, 67, 0], 0, 0), none, none, some (.invokevirtual 445, 3, [0, 231, 2, 0], 0, 0)],
  [none, none, some (.aload_n 0, 1, [0], 0, 0), some (.getfield 427, 3, [12, 67, 0], 0, 0), none, none, some (.if_icmp .eq 6, 3, [76], 0, 0), none, none, some (.goto 23, 3, [96], 0, 0), none, none, some (.aload_n 0, 1, [0], 0, 0), some (.invokevirtual 442, 3, [0, 230, 1, 0], 0, 0), none, none, some (.istore 6, 2, [6], 0, 0), none, some (.iload_n 3, 1, [3], 0, 0), some (.iconst (-1), 1, [], (-1), 0), some (.if_icmp .eq 9, 3, [93], 0, 0), none, none, some (.iload 6, 2, [6], 0, 0), none, some (.iload_n 3, 1, [3], 0, 0), some (.if_icmp .ge 6, 3, [96], 0, 0), none, none, some (.iload 6, 2, [6], 0, 0), none, some (.istore_n 3, 1, [3], 0, 0)],
  [some (.iinc 5 1, 3, [5], 1, 0), none, none, some (.goto (-54), 3, [45], 0, 0), none, none, some (.iload_n 3, 1, [3], 0, 0), some (.iconst (-1), 1, [], (-1), 0), some (.if_icmp .ne 12, 3, [116], 0, 0), none, none, some (.aload_n 0, 1, [0], 0, 0), some (.bipush 6, 2, [], 6, 0), none, some (.invokevirtual 342, 3, [0, 168, 2, 0], 0, 0), none, none, some (.goto 8, 3, [121], 0, 0), none, none, some (.aload_n 0, 1, [0], 0, 0), some (.iload_n 3, 1, [3], 0, 0), some (.invokevirtual 180, 3, [0, 169, 2, 0], 0, 0), none, none, some (.ireturn, 1, [], 0, 0)]]
def F_M_corner_45 (N : Nat) (bk : (Int32 → Int32 → Int32 → MH → Option (Int32 × MH))) (a3 : Int32) (a4 : Int32) (a5 : Int32) (h : MH) : Option (Int32 × MH) :=
  if a4 ≤ a5 then
  (if a3 = ((-1)) then
  ((f_M_refuse N 6 h).bind (fun x6 =>
  some (x6.1, x6.2)))
  else
  ((f_M_gives N a3 h).bind (fun x7 =>
  some (x7.1, x7.2))))
  else
  ((f_M_lay N a5 h).bind (fun x8 =>
  (f_M_fitting N (gI x8 68 67) x8).bind (fun x9 =>
  if x9.1 = (gI x9.2 68 67) then
  ((f_M_bend N x9.2).bind (fun x10 =>
  if a3 = ((-1)) then
  (let v11 : Int32 := a5 + 1
  bk x10.1 a4 v11 x10.2)
  else
  (if a3 ≤ x10.1 then
  (let v12 : Int32 := a5 + 1
  bk a3 a4 v12 x10.2)
  else
  (let v13 : Int32 := a5 + 1
  bk x10.1 a4 v13 x10.2))))
  else
  (let v14 : Int32 := a5 + 1
  bk a3 a4 v14 x9.2))))
def F_M_corner_0 (N : Nat) (bk : (Int32 → Int32 → Int32 → MH → Option (Int32 × MH))) (a1 : Int32) (a2 : Int32) (h : MH) : Option (Int32 × MH) :=
  (f_M_areYears N a1 a2 h).bind (fun x1 =>
  if x1.1 = 0 then
  ((f_M_refuse N 1 x1.2).bind (fun x2 =>
  some (x2.1, x2.2)))
  else
  (if (gI x1.2 68 32) = 0 then
  ((f_M_refuse N 6 x1.2).bind (fun x3 =>
  some (x3.1, x3.2)))
  else
  ((f_M_see N a1 a2 x1.2).bind (fun x4 =>
  (f_M_rowsOfSlips N x4).bind (fun x5 =>
  F_M_corner_45 N bk ((-1)) x5.1 0 x5.2)))))
def L_M_corner (N : Nat) : Nat → (Int32 → Int32 → Int32 → MH → Option (Int32 × MH))
  | 0 => fun _ _ _ _ => none
  | n + 1 => F_M_corner_45 N (L_M_corner N n)
def f_M_corner (N : Nat) (a1 : Int32) (a2 : Int32) (h : MH) : Option (Int32 × MH) := F_M_corner_0 N (L_M_corner N N) a1 a2 h
def C_M_corner (N : Nat) : MC := (KDL, false, (fun _ => 0), jsB, (fun j => match Nat.beq j 168 with
    | true => w_M_refuse (f_M_refuse N)
    | false => match Nat.beq j 169 with
    | true => w_M_gives (f_M_gives N)
    | false => match Nat.beq j 228 with
    | true => w_M_rowsOfSlips (f_M_rowsOfSlips N)
    | false => match Nat.beq j 230 with
    | true => w_M_bend (f_M_bend N)
    | false => match Nat.beq j 231 with
    | true => w_M_fitting (f_M_fitting N)
    | false => match Nat.beq j 234 with
    | true => w_M_areYears (f_M_areYears N)
    | false => fun _ _ => none), (fun _ _ _ => none), (fun _ _ _ => none), (fun j => match Nat.beq j 227 with
    | true => w_M_see (f_M_see N)
    | false => match Nat.beq j 229 with
    | true => w_M_lay (f_M_lay N)
    | false => fun _ _ => none))
def D_M_corner (N : Nat) (n pc : Nat) (lv : ML) (st : List MV) (h : MH) : Option (Int32 × MH) :=
  match Nat.beq pc 0 with
  | true => (match lk lv 0, lk lv 1, lk lv 2, st with
    | some (.inr (.inr (0, 12, 68))), some (.inl a1), some (.inl a2), [] => F_M_corner_0 N (L_M_corner N n) a1 a2 h
    | _, _, _, _ => none)
  | false => match Nat.beq pc 45 with
  | true => (match lk lv 0, lk lv 3, lk lv 4, lk lv 5, st with
    | some (.inr (.inr (0, 12, 68))), some (.inl a3), some (.inl a4), some (.inl a5), [] => F_M_corner_45 N (L_M_corner N n) a3 a4 a5 h
    | _, _, _, _, _ => none)
  | false => none
def B_M_corner (N : Nat) (n pc : Nat) (lv : ML) (st : List MV) (h : MH) : Option (Int32 × MH) :=
  match Nat.beq pc 45 with
  | true => (match lk lv 0, lk lv 3, lk lv 4, lk lv 5, st with
    | some (.inr (.inr (0, 12, 68))), some (.inl a3), some (.inl a4), some (.inl a5), [] => ((L_M_corner N n)) a3 a4 a5 h
    | _, _, _, _, _ => none)
  | false => none
set_option maxRecDepth 1000000 in
theorem E_M_corner_0 (N : Nat) (n : Nat) (a1 : Int32) (a2 : Int32) (h : MH) : seg (C_M_corner N) 7 0 rI T_M_corner [0, 45] (fun q lv st h => match Nat.ble 1 q with
    | true => D_M_corner N n q lv st h
    | false => B_M_corner N n q lv st h) 400 true 0 [(0, .inr (.inr (0, 12, 68))), (1, .inl a1), (2, .inl a2)] [] h = F_M_corner_0 N (L_M_corner N n) a1 a2 h := (rfl)
set_option maxRecDepth 1000000 in
theorem E_M_corner_45 (N : Nat) (n : Nat) (a3 : Int32) (a4 : Int32) (a5 : Int32) (h : MH) : seg (C_M_corner N) 7 0 rI T_M_corner [0, 45] (fun q lv st h => match Nat.ble 46 q with
    | true => D_M_corner N n q lv st h
    | false => B_M_corner N n q lv st h) 400 true 45 [(0, .inr (.inr (0, 12, 68))), (3, .inl a3), (4, .inl a4), (5, .inl a5)] [] h = F_M_corner_45 N (L_M_corner N n) a3 a4 a5 h := (rfl)
set_option maxRecDepth 1000000 in
theorem chk_M_corner : chkT 12 false prog_14_method_77_code T_M_corner = true := by decide +kernel
theorem mc_M_corner : mC 239 = prog_14_method_77_code := by rfl
theorem mx_M_corner : mL 239 = 7 ∧ mR 239 = some .int ∧ mK 239 = 1 ∧ (mN 239).cls = cN 12 := by decide +kernel
theorem hD_M_corner (N : Nat) {r : Int32 × MH} : ∀ n pc lv st h, D_M_corner N n pc lv st h = some r → ∃ lv', (∀ q ∈ lv', q ∈ lv) ∧ seg (C_M_corner N) 7 0 rI T_M_corner [0, 45] (fun q lv st h => match Nat.ble (pc + 1) q with
    | true => D_M_corner N n q lv st h
    | false => B_M_corner N n q lv st h) 400 true pc lv' st h = some r := by
  intro n pc lv st h hf
  unfold D_M_corner at hf
  split at hf
  · rename_i hb
    have hb := Nat.eq_of_beq_eq_true hb
    subst hb
    split at hf
    · rename_i y0 y1 e0 e1 e2
      exact ⟨_, (sub_cons e0 (sub_cons e1 (sub_cons e2 sub_nil))), (E_M_corner_0 N n _ _ h).trans hf⟩
    · cases hf
  · skip
    split at hf
    · rename_i hb
      have hb := Nat.eq_of_beq_eq_true hb
      subst hb
      split at hf
      · rename_i y0 y1 y2 e0 e1 e2 e3
        exact ⟨_, (sub_cons e0 (sub_cons e1 (sub_cons e2 (sub_cons e3 sub_nil)))), (E_M_corner_45 N n _ _ _ h).trans hf⟩
      · cases hf
    · skip
      cases hf
theorem hM_M_corner (N : Nat) {r : Int32 × MH} : ∀ n pc lv st h, D_M_corner N n pc lv st h = some r → pc < 122 := by
  intro n pc lv st h hf
  unfold D_M_corner at hf
  split at hf
  · rename_i hb
    rw [Nat.eq_of_beq_eq_true hb]
    decide
  · skip
    split at hf
    · rename_i hb
      rw [Nat.eq_of_beq_eq_true hb]
      decide
    · skip
      cases hf
theorem hB_M_corner (N : Nat) {r : Int32 × MH} : ∀ n pc lv st h, B_M_corner N n pc lv st h = some r → ∃ k, n = k + 1 ∧ D_M_corner N k pc lv st h = some r := by
  intro n pc lv st h hf
  unfold B_M_corner at hf
  split at hf
  · rename_i hb
    have hb := Nat.eq_of_beq_eq_true hb
    subst hb
    cases n with
    | zero =>
      split at hf
      · cases hf
      · cases hf
    | succ k =>
      refine ⟨k, rfl, ?_⟩
      exact hf
  · skip
    cases hf
theorem s_M_corner {l : Launch} {E : EV} {N : Nat} {as : List MV} {h : MH} {r : Int32 × MH} (hf : w_M_corner (f_M_corner N) as h = some r) : SndM l E false 2 239 as h (some (.inl r.1)) r.2 := by
  unfold w_M_corner at hf
  split at hf
  · obtain ⟨m1, m2, m3, m4⟩ := mx_M_corner
    refine snd_of (C := C_M_corner N) (own := 12) (rz := 0) (lim := 115) rI_eq m2 m4 pl_239 (TB_in _ cw_239 rfl) ⟨(fun _ => ⟨_, _, _, _, _, _, rfl, rfl, by rw [m4]; rfl⟩), (fun z => by rw [m3] at z; cases z)⟩ (fun z => by cases z) KDL_take rfl rfl (fun z => by cases z) (fun z => by cases z) (fun _ => rfl) (by rw [m1]; exact Nat.le_of_ble_eq_true rfl)
      (fun j as h x z => by
      dsimp only [C_M_corner] at z
      cases hb : Nat.beq j 168 with
      | true =>
        have hb := Nat.eq_of_beq_eq_true hb
        subst hb
        exact ⟨0, by decide, (fun z => by cases z), s_M_refuse z⟩
      | false =>
        rw [hb] at z
        dsimp only at z
        cases hb : Nat.beq j 169 with
        | true =>
          have hb := Nat.eq_of_beq_eq_true hb
          subst hb
          exact ⟨0, by decide, (fun z => by cases z), s_M_gives z⟩
        | false =>
          rw [hb] at z
          dsimp only at z
          cases hb : Nat.beq j 228 with
          | true =>
            have hb := Nat.eq_of_beq_eq_true hb
            subst hb
            exact ⟨0, by decide, (fun z => by cases z), s_M_rowsOfSlips z⟩
          | false =>
            rw [hb] at z
            dsimp only at z
            cases hb : Nat.beq j 230 with
            | true =>
              have hb := Nat.eq_of_beq_eq_true hb
              subst hb
              exact ⟨1, by decide, (fun z => by cases z), s_M_bend z⟩
            | false =>
              rw [hb] at z
              dsimp only at z
              cases hb : Nat.beq j 231 with
              | true =>
                have hb := Nat.eq_of_beq_eq_true hb
                subst hb
                exact ⟨0, by decide, (fun z => by cases z), s_M_fitting z⟩
              | false =>
                rw [hb] at z
                dsimp only at z
                cases hb : Nat.beq j 234 with
                | true =>
                  have hb := Nat.eq_of_beq_eq_true hb
                  subst hb
                  exact ⟨1, by decide, (fun z => by cases z), s_M_areYears z⟩
                | false =>
                  rw [hb] at z
                  dsimp only at z
                  cases z)
      (fun _ _ _ _ z => by cases z)
      (fun _ _ _ _ z => by cases z)
      (fun j as h x z => by
      dsimp only [C_M_corner] at z
      cases hb : Nat.beq j 227 with
      | true =>
        have hb := Nat.eq_of_beq_eq_true hb
        subst hb
        exact ⟨1, by decide, (fun z => by cases z), s_M_see z⟩
      | false =>
        rw [hb] at z
        dsimp only at z
        cases hb : Nat.beq j 229 with
        | true =>
          have hb := Nat.eq_of_beq_eq_true hb
          subst hb
          exact ⟨0, by decide, (fun z => by cases z), s_M_lay z⟩
        | false =>
          rw [hb] at z
          dsimp only at z
          cases z)
      (fun p e R s m args below meth c Q n0 F hret => ?_)
    rw [m1] at F hret ⊢
    rw [mc_M_corner] at F hret
    exact cuts_s (K := 400) (M := 122) (D := D_M_corner N) (B := B_M_corner N) F hret (chkT_ok chk_M_corner) (hM_M_corner N) (hB_M_corner N) (hD_M_corner N) N 0 _ _ _ hf
  · cases hf
def T_M_findSets : List (List (Option RW)) := [
  [some (.iconst 0, 1, [], 0, 0), some (.istore_n 1, 1, [1], 0, 0), some (.iload_n 1, 1, [1], 0, 0), some (.sipush 256, 3, [], 256, 0), none, none, some (.if_icmp .ge 16, 3, [22], 0, 0), none, none, some (.aload_n 0, 1, [0], 0, 0), some (.getfield 141, 3, [12, 71, 2, 4, 256, 38], 0, 0), none, none, some (.iload_n 1, 1, [1], 0, 0), some (.iconst 0, 1, [], 0, 0), some (.bastore, 1, [], 0, 0), some (.iinc 1 1, 3, [1], 1, 0), none, none, some (.goto (-17), 3, [2], 0, 0), none, none, some (.aload_n 0, 1, [0], 0, 0), some (.invokevirtual 436, 3, [0, 228, 1, 0], 0, 0), none, none, some (.istore_n 1, 1, [1], 0, 0), some (.iconst 0, 1, [], 0, 0), some (.istore_n 2, 1, [2], 0, 0), some (.iload_n 2, 1, [2], 0, 0), some (.iload_n 1, 1, [1], 0, 0), some (.if_icmp .ge 39, 3, [70], 0, 0)],
  [none, none, some (.aload_n 0, 1, [0], 0, 0), some (.iload_n 2, 1, [2], 0, 0), some (.invokevirtual 439, 3, [0, 229, 2, 3], 0, 0), none, none, some (.aload_n 0, 1, [0], 0, 0), some (.invokevirtual 442, 3, [0, 230, 1, 0], 0, 0), none, none, some (.aload_n 0, 1, [0], 0, 0), some (.getfield 129, 3, [12, 66, 0], 0, 0), none, none, some (.if_icmp .gt 17, 3, [64], 0, 0), none, none, some (.aload_n 0, 1, [0], 0, 0), some (.getfield 141, 3, [12, 71, 2, 4, 256, 38], 0, 0), none, none, some (.aload_n 0, 1, [0], 0, 0), some (.aload_n 0, 1, [0], 0, 0), some (.getfield 427, 3, [12, 67, 0], 0, 0), none, none, some (.invokevirtual 445, 3, [0, 231, 2, 0], 0, 0), none, none, some (.iconst 1, 1, [], 1, 0), some (.bastore, 1, [], 0, 0)],
  [some (.iinc 2 1, 3, [2], 1, 0), none, none, some (.goto (-38), 3, [29], 0, 0), none, none, some (.iconst 0, 1, [], 0, 0), some (.istore_n 2, 1, [2], 0, 0), some (.iload_n 2, 1, [2], 0, 0), some (.bipush 8, 2, [], 8, 0), none, some (.if_icmp .ge 52, 3, [127], 0, 0), none, none, some (.iconst 0, 1, [], 0, 0), some (.istore_n 3, 1, [3], 0, 0), some (.iload_n 3, 1, [3], 0, 0), some (.sipush 256, 3, [], 256, 0), none, none, some (.if_icmp .ge 37, 3, [121], 0, 0), none, none, some (.iload_n 3, 1, [3], 0, 0), some (.iload_n 2, 1, [2], 0, 0), some (.ishr, 1, [], 0, 0), some (.iconst 1, 1, [], 1, 0), some (.iand, 1, [], 0, 0), some (.ifCond .ne 23, 3, [115], 0, 0), none, none, some (.aload_n 0, 1, [0], 0, 0)],
  [some (.getfield 141, 3, [12, 71, 2, 4, 256, 38], 0, 0), none, none, some (.iload_n 3, 1, [3], 0, 0), some (.iconst 1, 1, [], 1, 0), some (.iload_n 2, 1, [2], 0, 0), some (.ishl, 1, [], 0, 0), some (.ior, 1, [], 0, 0), some (.baload, 1, [], 0, 0), some (.ifCond .eq 10, 3, [115], 0, 0), none, none, some (.aload_n 0, 1, [0], 0, 0), some (.getfield 141, 3, [12, 71, 2, 4, 256, 38], 0, 0), none, none, some (.iload_n 3, 1, [3], 0, 0), some (.iconst 1, 1, [], 1, 0), some (.bastore, 1, [], 0, 0), some (.iinc 3 1, 3, [3], 1, 0), none, none, some (.goto (-38), 3, [80], 0, 0), none, none, some (.iinc 2 1, 3, [2], 1, 0), none, none, some (.goto (-52), 3, [72], 0, 0), none, none, some (.return_, 1, [], 0, 0)]]
def F_M_findSets_80 (N : Nat) (bk : (Int32 → MH → Option (MH)) × (Int32 → Int32 → MH → Option (MH)) × (Int32 → MH → Option (MH)) × (Int32 → Int32 → MH → Option (MH))) (a2 : Int32) (a3 : Int32) (h : MH) : Option (MH) :=
  if 256 ≤ a3 then
  (let v10 : Int32 := a2 + 1
  (bk.2.2.1) v10 h)
  else
  (if ((a3 >>> (a2 &&& 31)) &&& 1) = 0 then
  (if inB (a3 ||| ((1 : Int32) <<< (a2 &&& 31))) 256 = true then
  (if (gI h 106 (iN (a3 ||| ((1 : Int32) <<< (a2 &&& 31))))) = 0 then
  (let v11 : Int32 := a3 + 1
  (bk.2.2.2) a2 v11 h)
  else
  (if inB a3 256 = true then
  (let h12 : MH := sI h 106 (iN a3) ((1 : Int32) &&& 1)
  let v13 : Int32 := a3 + 1
  (bk.2.2.2) a2 v13 h12)
  else none))
  else none)
  else
  (let v14 : Int32 := a3 + 1
  (bk.2.2.2) a2 v14 h))
def F_M_findSets_72 (N : Nat) (bk : (Int32 → MH → Option (MH)) × (Int32 → Int32 → MH → Option (MH)) × (Int32 → MH → Option (MH)) × (Int32 → Int32 → MH → Option (MH))) (a2 : Int32) (h : MH) : Option (MH) :=
  if 8 ≤ a2 then
  (some h)
  else
  (F_M_findSets_80 N bk a2 0 h)
def F_M_findSets_29 (N : Nat) (bk : (Int32 → MH → Option (MH)) × (Int32 → Int32 → MH → Option (MH)) × (Int32 → MH → Option (MH)) × (Int32 → Int32 → MH → Option (MH))) (a1 : Int32) (a2 : Int32) (h : MH) : Option (MH) :=
  if a1 ≤ a2 then
  (F_M_findSets_72 N bk 0 h)
  else
  ((f_M_lay N a2 h).bind (fun x4 =>
  (f_M_bend N x4).bind (fun x5 =>
  if (gI x5.2 68 66) < x5.1 then
  (let v6 : Int32 := a2 + 1
  (bk.2.1) a1 v6 x5.2)
  else
  ((f_M_fitting N (gI x5.2 68 67) x5.2).bind (fun x7 =>
  if inB x7.1 256 = true then
  (let h8 : MH := sI x7.2 106 (iN x7.1) ((1 : Int32) &&& 1)
  let v9 : Int32 := a2 + 1
  (bk.2.1) a1 v9 h8)
  else none)))))
def F_M_findSets_2 (N : Nat) (bk : (Int32 → MH → Option (MH)) × (Int32 → Int32 → MH → Option (MH)) × (Int32 → MH → Option (MH)) × (Int32 → Int32 → MH → Option (MH))) (a1 : Int32) (h : MH) : Option (MH) :=
  if 256 ≤ a1 then
  ((f_M_rowsOfSlips N h).bind (fun x1 =>
  F_M_findSets_29 N bk x1.1 0 x1.2))
  else
  (if inB a1 256 = true then
  (let h2 : MH := sI h 106 (iN a1) ((0 : Int32) &&& 1)
  let v3 : Int32 := a1 + 1
  (bk.1) v3 h2)
  else none)
def F_M_findSets_0 (N : Nat) (bk : (Int32 → MH → Option (MH)) × (Int32 → Int32 → MH → Option (MH)) × (Int32 → MH → Option (MH)) × (Int32 → Int32 → MH → Option (MH))) (h : MH) : Option (MH) :=
  F_M_findSets_2 N bk 0 h
def L_M_findSets (N : Nat) : Nat → ((Int32 → MH → Option (MH)) × (Int32 → Int32 → MH → Option (MH)) × (Int32 → MH → Option (MH)) × (Int32 → Int32 → MH → Option (MH)))
  | 0 => (fun _ _ => none, fun _ _ _ => none, fun _ _ => none, fun _ _ _ => none)
  | n + 1 => (F_M_findSets_2 N (L_M_findSets N n), F_M_findSets_29 N (L_M_findSets N n), F_M_findSets_72 N (L_M_findSets N n), F_M_findSets_80 N (L_M_findSets N n))
def f_M_findSets (N : Nat) (h : MH) : Option (MH) := F_M_findSets_0 N (L_M_findSets N N) h
def C_M_findSets (N : Nat) : MC := (KDL, false, (fun _ => 0), jsB, (fun j => match Nat.beq j 228 with
    | true => w_M_rowsOfSlips (f_M_rowsOfSlips N)
    | false => match Nat.beq j 230 with
    | true => w_M_bend (f_M_bend N)
    | false => match Nat.beq j 231 with
    | true => w_M_fitting (f_M_fitting N)
    | false => fun _ _ => none), (fun _ _ _ => none), (fun _ _ _ => none), (fun j => match Nat.beq j 229 with
    | true => w_M_lay (f_M_lay N)
    | false => fun _ _ => none))
def D_M_findSets (N : Nat) (n pc : Nat) (lv : ML) (st : List MV) (h : MH) : Option (MH) :=
  match Nat.beq pc 0 with
  | true => (match lk lv 0, st with
    | some (.inr (.inr (0, 12, 68))), [] => F_M_findSets_0 N (L_M_findSets N n) h
    | _, _ => none)
  | false => match Nat.beq pc 2 with
  | true => (match lk lv 0, lk lv 1, st with
    | some (.inr (.inr (0, 12, 68))), some (.inl a1), [] => F_M_findSets_2 N (L_M_findSets N n) a1 h
    | _, _, _ => none)
  | false => match Nat.beq pc 29 with
  | true => (match lk lv 0, lk lv 1, lk lv 2, st with
    | some (.inr (.inr (0, 12, 68))), some (.inl a1), some (.inl a2), [] => F_M_findSets_29 N (L_M_findSets N n) a1 a2 h
    | _, _, _, _ => none)
  | false => match Nat.beq pc 72 with
  | true => (match lk lv 0, lk lv 2, st with
    | some (.inr (.inr (0, 12, 68))), some (.inl a2), [] => F_M_findSets_72 N (L_M_findSets N n) a2 h
    | _, _, _ => none)
  | false => match Nat.beq pc 80 with
  | true => (match lk lv 0, lk lv 2, lk lv 3, st with
    | some (.inr (.inr (0, 12, 68))), some (.inl a2), some (.inl a3), [] => F_M_findSets_80 N (L_M_findSets N n) a2 a3 h
    | _, _, _, _ => none)
  | false => none
def B_M_findSets (N : Nat) (n pc : Nat) (lv : ML) (st : List MV) (h : MH) : Option (MH) :=
  match Nat.beq pc 2 with
  | true => (match lk lv 0, lk lv 1, st with
    | some (.inr (.inr (0, 12, 68))), some (.inl a1), [] => ((L_M_findSets N n).1) a1 h
    | _, _, _ => none)
  | false => match Nat.beq pc 29 with
  | true => (match lk lv 0, lk lv 1, lk lv 2, st with
    | some (.inr (.inr (0, 12, 68))), some (.inl a1), some (.inl a2), [] => ((L_M_findSets N n).2.1) a1 a2 h
    | _, _, _, _ => none)
  | false => match Nat.beq pc 72 with
  | true => (match lk lv 0, lk lv 2, st with
    | some (.inr (.inr (0, 12, 68))), some (.inl a2), [] => ((L_M_findSets N n).2.2.1) a2 h
    | _, _, _ => none)
  | false => match Nat.beq pc 80 with
  | true => (match lk lv 0, lk lv 2, lk lv 3, st with
    | some (.inr (.inr (0, 12, 68))), some (.inl a2), some (.inl a3), [] => ((L_M_findSets N n).2.2.2) a2 a3 h
    | _, _, _, _ => none)
  | false => none
set_option maxRecDepth 1000000 in
theorem E_M_findSets_0 (N : Nat) (n : Nat) (h : MH) : seg (C_M_findSets N) 4 0 rV T_M_findSets [0, 2, 29, 72, 80] (fun q lv st h => match Nat.ble 1 q with
    | true => D_M_findSets N n q lv st h
    | false => B_M_findSets N n q lv st h) 400 true 0 [(0, .inr (.inr (0, 12, 68)))] [] h = F_M_findSets_0 N (L_M_findSets N n) h := (rfl)
set_option maxRecDepth 1000000 in
theorem E_M_findSets_2 (N : Nat) (n : Nat) (a1 : Int32) (h : MH) : seg (C_M_findSets N) 4 0 rV T_M_findSets [0, 2, 29, 72, 80] (fun q lv st h => match Nat.ble 3 q with
    | true => D_M_findSets N n q lv st h
    | false => B_M_findSets N n q lv st h) 400 true 2 [(0, .inr (.inr (0, 12, 68))), (1, .inl a1)] [] h = F_M_findSets_2 N (L_M_findSets N n) a1 h := (rfl)
set_option maxRecDepth 1000000 in
theorem E_M_findSets_29 (N : Nat) (n : Nat) (a1 : Int32) (a2 : Int32) (h : MH) : seg (C_M_findSets N) 4 0 rV T_M_findSets [0, 2, 29, 72, 80] (fun q lv st h => match Nat.ble 30 q with
    | true => D_M_findSets N n q lv st h
    | false => B_M_findSets N n q lv st h) 400 true 29 [(0, .inr (.inr (0, 12, 68))), (1, .inl a1), (2, .inl a2)] [] h = F_M_findSets_29 N (L_M_findSets N n) a1 a2 h := (rfl)
set_option maxRecDepth 1000000 in
theorem E_M_findSets_72 (N : Nat) (n : Nat) (a2 : Int32) (h : MH) : seg (C_M_findSets N) 4 0 rV T_M_findSets [0, 2, 29, 72, 80] (fun q lv st h => match Nat.ble 73 q with
    | true => D_M_findSets N n q lv st h
    | false => B_M_findSets N n q lv st h) 400 true 72 [(0, .inr (.inr (0, 12, 68))), (2, .inl a2)] [] h = F_M_findSets_72 N (L_M_findSets N n) a2 h := (rfl)
set_option maxRecDepth 1000000 in
theorem E_M_findSets_80 (N : Nat) (n : Nat) (a2 : Int32) (a3 : Int32) (h : MH) : seg (C_M_findSets N) 4 0 rV T_M_findSets [0, 2, 29, 72, 80] (fun q lv st h => match Nat.ble 81 q with
    | true => D_M_findSets N n q lv st h
    | false => B_M_findSets N n q lv st h) 400 true 80 [(0, .inr (.inr (0, 12, 68))), (2, .inl a2), (3, .inl a3)] [] h = F_M_findSets_80 N (L_M_findSets N n) a2 a3 h := (rfl)
set_option maxRecDepth 1000000 in
theorem chk_M_findSets : chkT 12 false prog_14_method_78_code T_M_findSets = true := by decide +kernel
theorem mc_M_findSets : mC 240 = prog_14_method_78_code := by rfl
theorem mx_M_findSets : mL 240 = 4 ∧ mR 240 = none ∧ mK 240 = 1 ∧ (mN 240).cls = cN 12 := by decide +kernel
theorem hD_M_findSets (N : Nat) {r : MH} : ∀ n pc lv st h, D_M_findSets N n pc lv st h = some r → ∃ lv', (∀ q ∈ lv', q ∈ lv) ∧ seg (C_M_findSets N) 4 0 rV T_M_findSets [0, 2, 29, 72, 80] (fun q lv st h => match Nat.ble (pc + 1) q with
    | true => D_M_findSets N n q lv st h
    | false => B_M_findSets N n q lv st h) 400 true pc lv' st h = some r := by
  intro n pc lv st h hf
  unfold D_M_findSets at hf
  split at hf
  · rename_i hb
    have hb := Nat.eq_of_beq_eq_true hb
    subst hb
    split at hf
    · rename_i e0
      exact ⟨_, (sub_cons e0 sub_nil), (E_M_findSets_0 N n h).trans hf⟩
    · cases hf
  · skip
    split at hf
    · rename_i hb
      have hb := Nat.eq_of_beq_eq_true hb
      subst hb
      split at hf
      · rename_i y0 e0 e1
        exact ⟨_, (sub_cons e0 (sub_cons e1 sub_nil)), (E_M_findSets_2 N n _ h).trans hf⟩
      · cases hf
    · skip
      split at hf
      · rename_i hb
        have hb := Nat.eq_of_beq_eq_true hb
        subst hb
        split at hf
        · rename_i y0 y1 e0 e1 e2
          exact ⟨_, (sub_cons e0 (sub_cons e1 (sub_cons e2 sub_nil))), (E_M_findSets_29 N n _ _ h).trans hf⟩
        · cases hf
      · skip
        split at hf
        · rename_i hb
          have hb := Nat.eq_of_beq_eq_true hb
          subst hb
          split at hf
          · rename_i y0 e0 e1
            exact ⟨_, (sub_cons e0 (sub_cons e1 sub_nil)), (E_M_findSets_72 N n _ h).trans hf⟩
          · cases hf
        · skip
          split at hf
          · rename_i hb
            have hb := Nat.eq_of_beq_eq_true hb
            subst hb
            split at hf
            · rename_i y0 y1 e0 e1 e2
              exact ⟨_, (sub_cons e0 (sub_cons e1 (sub_cons e2 sub_nil))), (E_M_findSets_80 N n _ _ h).trans hf⟩
            · cases hf
          · skip
            cases hf
theorem hM_M_findSets (N : Nat) {r : MH} : ∀ n pc lv st h, D_M_findSets N n pc lv st h = some r → pc < 128 := by
  intro n pc lv st h hf
  unfold D_M_findSets at hf
  split at hf
  · rename_i hb
    rw [Nat.eq_of_beq_eq_true hb]
    decide
  · skip
    split at hf
    · rename_i hb
      rw [Nat.eq_of_beq_eq_true hb]
      decide
    · skip
      split at hf
      · rename_i hb
        rw [Nat.eq_of_beq_eq_true hb]
        decide
      · skip
        split at hf
        · rename_i hb
          rw [Nat.eq_of_beq_eq_true hb]
          decide
        · skip
          split at hf
          · rename_i hb
            rw [Nat.eq_of_beq_eq_true hb]
            decide
          · skip
            cases hf
theorem hB_M_findSets (N : Nat) {r : MH} : ∀ n pc lv st h, B_M_findSets N n pc lv st h = some r → ∃ k, n = k + 1 ∧ D_M_findSets N k pc lv st h = some r := by
  intro n pc lv st h hf
  unfold B_M_findSets at hf
  split at hf
  · rename_i hb
    have hb := Nat.eq_of_beq_eq_true hb
    subst hb
    cases n with
    | zero =>
      split at hf
      · cases hf
      · cases hf
    | succ k =>
      refine ⟨k, rfl, ?_⟩
      exact hf
  · skip
    split at hf
    · rename_i hb
      have hb := Nat.eq_of_beq_eq_true hb
      subst hb
      cases n with
      | zero =>
        split at hf
        · cases hf
        · cases hf
      | succ k =>
        refine ⟨k, rfl, ?_⟩
        exact hf
    · skip
      split at hf
      · rename_i hb
        have hb := Nat.eq_of_beq_eq_true hb
        subst hb
        cases n with
        | zero =>
          split at hf
          · cases hf
          · cases hf
        | succ k =>
          refine ⟨k, rfl, ?_⟩
          exact hf
      · skip
        split at hf
        · rename_i hb
          have hb := Nat.eq_of_beq_eq_true hb
          subst hb
          cases n with
          | zero =>
            split at hf
            · cases hf
            · cases hf
          | succ k =>
            refine ⟨k, rfl, ?_⟩
            exact hf
        · skip
          cases hf
theorem s_M_findSets {l : Launch} {E : EV} {N : Nat} {as : List MV} {h : MH} {r : MH} (hf : w_M_findSets (f_M_findSets N) as h = some r) : SndM l E false 2 240 as h none r := by
  unfold w_M_findSets at hf
  split at hf
  · obtain ⟨m1, m2, m3, m4⟩ := mx_M_findSets
    refine snd_of (C := C_M_findSets N) (own := 12) (rz := 0) (lim := 115) rV_eq m2 m4 pl_240 (TB_in _ cw_240 rfl) ⟨(fun _ => ⟨_, _, _, _, _, _, rfl, rfl, by rw [m4]; rfl⟩), (fun z => by rw [m3] at z; cases z)⟩ (fun z => by cases z) KDL_take rfl rfl (fun z => by cases z) (fun z => by cases z) (fun _ => rfl) (by rw [m1]; exact Nat.le_of_ble_eq_true rfl)
      (fun j as h x z => by
      dsimp only [C_M_findSets] at z
      cases hb : Nat.beq j 228 with
      | true =>
        have hb := Nat.eq_of_beq_eq_true hb
        subst hb
        exact ⟨0, by decide, (fun z => by cases z), s_M_rowsOfSlips z⟩
      | false =>
        rw [hb] at z
        dsimp only at z
        cases hb : Nat.beq j 230 with
        | true =>
          have hb := Nat.eq_of_beq_eq_true hb
          subst hb
          exact ⟨1, by decide, (fun z => by cases z), s_M_bend z⟩
        | false =>
          rw [hb] at z
          dsimp only at z
          cases hb : Nat.beq j 231 with
          | true =>
            have hb := Nat.eq_of_beq_eq_true hb
            subst hb
            exact ⟨0, by decide, (fun z => by cases z), s_M_fitting z⟩
          | false =>
            rw [hb] at z
            dsimp only at z
            cases z)
      (fun _ _ _ _ z => by cases z)
      (fun _ _ _ _ z => by cases z)
      (fun j as h x z => by
      dsimp only [C_M_findSets] at z
      cases hb : Nat.beq j 229 with
      | true =>
        have hb := Nat.eq_of_beq_eq_true hb
        subst hb
        exact ⟨0, by decide, (fun z => by cases z), s_M_lay z⟩
      | false =>
        rw [hb] at z
        dsimp only at z
        cases z)
      (fun p e R s m args below meth c Q n0 F hret => ?_)
    rw [m1] at F hret ⊢
    rw [mc_M_findSets] at F hret
    exact cuts_s (K := 400) (M := 128) (D := D_M_findSets N) (B := B_M_findSets N) F hret (chkT_ok chk_M_findSets) (hM_M_findSets N) (hB_M_findSets N) (hD_M_findSets N) N 0 _ _ _ hf
  · cases hf
def T_M_bits : List (List (Option RW)) := [
  [some (.iconst 0, 1, [], 0, 0), some (.istore_n 1, 1, [1], 0, 0), some (.iload_n 0, 1, [0], 0, 0), some (.istore_n 2, 1, [2], 0, 0), some (.iload_n 2, 1, [2], 0, 0), some (.ifCond .eq 15, 3, [20], 0, 0), none, none, some (.iinc 1 1, 3, [1], 1, 0), none, none, some (.iload_n 2, 1, [2], 0, 0), some (.iload_n 2, 1, [2], 0, 0), some (.iconst 1, 1, [], 1, 0), some (.isub, 1, [], 0, 0), some (.iand, 1, [], 0, 0), some (.istore_n 2, 1, [2], 0, 0), some (.goto (-13), 3, [4], 0, 0), none, none, some (.iload_n 1, 1, [1], 0, 0), some (.ireturn, 1, [], 0, 0)]]
def F_M_bits_4 (N : Nat) (bk : (Int32 → Int32 → MH → Option (Int32 × MH))) (a1 : Int32) (a2 : Int32) (h : MH) : Option (Int32 × MH) :=
  if a2 = 0 then
  (some (a1, h))
  else
  (let v1 : Int32 := a1 + 1
  let v2 : Int32 := a2 &&& (a2 - 1)
  bk v1 v2 h)
def F_M_bits_0 (N : Nat) (bk : (Int32 → Int32 → MH → Option (Int32 × MH))) (a0 : Int32) (h : MH) : Option (Int32 × MH) :=
  F_M_bits_4 N bk 0 a0 h
def L_M_bits (N : Nat) : Nat → (Int32 → Int32 → MH → Option (Int32 × MH))
  | 0 => fun _ _ _ => none
  | n + 1 => F_M_bits_4 N (L_M_bits N n)
def f_M_bits (N : Nat) (a0 : Int32) (h : MH) : Option (Int32 × MH) := F_M_bits_0 N (L_M_bits N N) a0 h
def C_M_bits (N : Nat) : MC := (KDL, false, (fun _ => 0), jsB, (fun _ _ _ => none), (fun _ _ _ => none), (fun _ _ _ => none), (fun _ _ _ => none))
def D_M_bits (N : Nat) (n pc : Nat) (lv : ML) (st : List MV) (h : MH) : Option (Int32 × MH) :=
  match Nat.beq pc 0 with
  | true => (match lk lv 0, st with
    | some (.inl a0), [] => F_M_bits_0 N (L_M_bits N n) a0 h
    | _, _ => none)
  | false => match Nat.beq pc 4 with
  | true => (match lk lv 1, lk lv 2, st with
    | some (.inl a1), some (.inl a2), [] => F_M_bits_4 N (L_M_bits N n) a1 a2 h
    | _, _, _ => none)
  | false => none
def B_M_bits (N : Nat) (n pc : Nat) (lv : ML) (st : List MV) (h : MH) : Option (Int32 × MH) :=
  match Nat.beq pc 4 with
  | true => (match lk lv 1, lk lv 2, st with
    | some (.inl a1), some (.inl a2), [] => ((L_M_bits N n)) a1 a2 h
    | _, _, _ => none)
  | false => none
set_option maxRecDepth 1000000 in
theorem E_M_bits_0 (N : Nat) (n : Nat) (a0 : Int32) (h : MH) : seg (C_M_bits N) 3 0 rI T_M_bits [0, 4] (fun q lv st h => match Nat.ble 1 q with
    | true => D_M_bits N n q lv st h
    | false => B_M_bits N n q lv st h) 400 true 0 [(0, .inl a0)] [] h = F_M_bits_0 N (L_M_bits N n) a0 h := (rfl)
set_option maxRecDepth 1000000 in
theorem E_M_bits_4 (N : Nat) (n : Nat) (a1 : Int32) (a2 : Int32) (h : MH) : seg (C_M_bits N) 3 0 rI T_M_bits [0, 4] (fun q lv st h => match Nat.ble 5 q with
    | true => D_M_bits N n q lv st h
    | false => B_M_bits N n q lv st h) 400 true 4 [(1, .inl a1), (2, .inl a2)] [] h = F_M_bits_4 N (L_M_bits N n) a1 a2 h := (rfl)
set_option maxRecDepth 1000000 in
theorem chk_M_bits : chkT 12 false prog_14_method_79_code T_M_bits = true := by decide +kernel
theorem mc_M_bits : mC 241 = prog_14_method_79_code := by rfl
theorem mx_M_bits : mL 241 = 3 ∧ mR 241 = some .int ∧ mK 241 = 0 ∧ (mN 241).cls = cN 12 := by decide +kernel
theorem hD_M_bits (N : Nat) {r : Int32 × MH} : ∀ n pc lv st h, D_M_bits N n pc lv st h = some r → ∃ lv', (∀ q ∈ lv', q ∈ lv) ∧ seg (C_M_bits N) 3 0 rI T_M_bits [0, 4] (fun q lv st h => match Nat.ble (pc + 1) q with
    | true => D_M_bits N n q lv st h
    | false => B_M_bits N n q lv st h) 400 true pc lv' st h = some r := by
  intro n pc lv st h hf
  unfold D_M_bits at hf
  split at hf
  · rename_i hb
    have hb := Nat.eq_of_beq_eq_true hb
    subst hb
    split at hf
    · rename_i y0 e0
      exact ⟨_, (sub_cons e0 sub_nil), (E_M_bits_0 N n _ h).trans hf⟩
    · cases hf
  · skip
    split at hf
    · rename_i hb
      have hb := Nat.eq_of_beq_eq_true hb
      subst hb
      split at hf
      · rename_i y0 y1 e0 e1
        exact ⟨_, (sub_cons e0 (sub_cons e1 sub_nil)), (E_M_bits_4 N n _ _ h).trans hf⟩
      · cases hf
    · skip
      cases hf
theorem hM_M_bits (N : Nat) {r : Int32 × MH} : ∀ n pc lv st h, D_M_bits N n pc lv st h = some r → pc < 22 := by
  intro n pc lv st h hf
  unfold D_M_bits at hf
  split at hf
  · rename_i hb
    rw [Nat.eq_of_beq_eq_true hb]
    decide
  · skip
    split at hf
    · rename_i hb
      rw [Nat.eq_of_beq_eq_true hb]
      decide
    · skip
      cases hf
theorem hB_M_bits (N : Nat) {r : Int32 × MH} : ∀ n pc lv st h, B_M_bits N n pc lv st h = some r → ∃ k, n = k + 1 ∧ D_M_bits N k pc lv st h = some r := by
  intro n pc lv st h hf
  unfold B_M_bits at hf
  split at hf
  · rename_i hb
    have hb := Nat.eq_of_beq_eq_true hb
    subst hb
    cases n with
    | zero =>
      split at hf
      · cases hf
      · cases hf
    | succ k =>
      refine ⟨k, rfl, ?_⟩
      exact hf
  · skip
    cases hf
theorem s_M_bits {l : Launch} {E : EV} {N : Nat} {as : List MV} {h : MH} {r : Int32 × MH} (hf : w_M_bits (f_M_bits N) as h = some r) : SndM l E false 0 241 as h (some (.inl r.1)) r.2 := by
  unfold w_M_bits at hf
  split at hf
  · obtain ⟨m1, m2, m3, m4⟩ := mx_M_bits
    refine snd_of (C := C_M_bits N) (own := 12) (rz := 0) (lim := 115) rI_eq m2 m4 pl_241 (TB_in _ cw_241 rfl) ⟨(fun z => by rw [m3] at z; cases z), (fun z => by rw [m3] at z; cases z)⟩ (fun z => by cases z) KDL_take rfl rfl (fun z => by cases z) (fun z => by cases z) (fun _ => rfl) (by rw [m1]; exact Nat.le_of_ble_eq_true rfl)
      (fun _ _ _ _ z => by cases z)
      (fun _ _ _ _ z => by cases z)
      (fun _ _ _ _ z => by cases z)
      (fun _ _ _ _ z => by cases z)
      (fun p e R s m args below meth c Q n0 F hret => ?_)
    rw [m1] at F hret ⊢
    rw [mc_M_bits] at F hret
    exact cuts_s (K := 400) (M := 22) (D := D_M_bits N) (B := B_M_bits N) F hret (chkT_ok chk_M_bits) (hM_M_bits N) (hB_M_bits N) (hD_M_bits N) N 0 _ _ _ hf
  · cases hf
def T_M_quarrel : List (List (Option RW)) := [
  [some (.iload_n 1, 1, [1], 0, 0), some (.iload_n 2, 1, [2], 0, 0), some (.invokestatic 451, 3, [2, 234, 2, 0], 0, 0), none, none, some (.ifCond .eq 12, 3, [17], 0, 0), none, none, some (.iload_n 3, 1, [3], 0, 0), some (.ifCond .lt 8, 3, [17], 0, 0), none, none, some (.iload_n 3, 1, [3], 0, 0), some (.iconst 2, 1, [], 2, 0), some (.if_icmp .le 9, 3, [23], 0, 0), none, none, some (.aload_n 0, 1, [0], 0, 0), some (.iconst 1, 1, [], 1, 0), some (.invokevirtual 342, 3, [0, 168, 2, 0], 0, 0), none, none, some (.ireturn, 1, [], 0, 0), some (.aload_n 0, 1, [0], 0, 0), some (.getfield 348, 3, [12, 32, 0], 0, 0), none, none, some (.ifCond .ne 10, 3, [37], 0, 0), none, none, some (.aload_n 0, 1, [0], 0, 0), some (.bipush 6, 2, [], 6, 0)],
  [none, some (.invokevirtual 342, 3, [0, 168, 2, 0], 0, 0), none, none, some (.ireturn, 1, [], 0, 0), some (.aload_n 0, 1, [0], 0, 0), some (.iload_n 1, 1, [1], 0, 0), some (.iload_n 2, 1, [2], 0, 0), some (.invokevirtual 454, 3, [0, 227, 3, 3], 0, 0), none, none, some (.aload_n 0, 1, [0], 0, 0), some (.invokevirtual 465, 3, [0, 240, 1, 3], 0, 0), none, none, some (.aload_n 0, 1, [0], 0, 0), some (.getfield 141, 3, [12, 71, 2, 4, 256, 38], 0, 0), none, none, some (.aload_n 0, 1, [0], 0, 0), some (.getfield 427, 3, [12, 67, 0], 0, 0), none, none, some (.baload, 1, [], 0, 0), some (.ifCond .eq 10, 3, [66], 0, 0), none, none, some (.aload_n 0, 1, [0], 0, 0), some (.bipush 6, 2, [], 6, 0), none, some (.invokevirtual 342, 3, [0, 168, 2, 0], 0, 0), none],
  [none, some (.ireturn, 1, [], 0, 0), some (.iconst (-1), 1, [], (-1), 0), some (.istore 4, 2, [4], 0, 0), none, some (.iconst 0, 1, [], 0, 0), some (.istore 5, 2, [5], 0, 0), none, some (.iconst 0, 1, [], 0, 0), some (.istore 6, 2, [6], 0, 0), none, some (.iconst 0, 1, [], 0, 0), some (.istore 7, 2, [7], 0, 0), none, some (.iload 7, 2, [7], 0, 0), none, some (.aload_n 0, 1, [0], 0, 0), some (.getfield 427, 3, [12, 67, 0], 0, 0), none, none, some (.if_icmp .gt 82, 3, [166], 0, 0), none, none, some (.iload 7, 2, [7], 0, 0), none, some (.aload_n 0, 1, [0], 0, 0), some (.getfield 427, 3, [12, 67, 0], 0, 0), none, none, some (.iconst (-1), 1, [], (-1), 0), some (.ixor, 1, [], 0, 0), some (.iand, 1, [], 0, 0)],
  [some (.ifCond .ne 64, 3, [160], 0, 0), none, none, some (.aload_n 0, 1, [0], 0, 0), some (.getfield 141, 3, [12, 71, 2, 4, 256, 38], 0, 0), none, none, some (.iload 7, 2, [7], 0, 0), none, some (.baload, 1, [], 0, 0), some (.ifCond .eq 6, 3, [112], 0, 0), none, none, some (.goto 51, 3, [160], 0, 0), none, none, some (.iload 7, 2, [7], 0, 0), none, some (.invokestatic 468, 3, [2, 241, 1, 0], 0, 0), none, none, some (.istore 8, 2, [8], 0, 0), none, some (.iload 4, 2, [4], 0, 0), none, some (.iconst (-1), 1, [], (-1), 0), some (.if_icmp .eq 10, 3, [132], 0, 0), none, none, some (.iload 8, 2, [8], 0, 0), none, some (.iload 4, 2, [4], 0, 0)],
  [none, some (.if_icmp .ge 14, 3, [143], 0, 0), none, none, some (.iload 8, 2, [8], 0, 0), none, some (.istore 4, 2, [4], 0, 0), none, some (.iload 7, 2, [7], 0, 0), none, some (.istore 5, 2, [5], 0, 0), none, some (.iconst 0, 1, [], 0, 0), some (.istore 6, 2, [6], 0, 0), none, some (.iload 6, 2, [6], 0, 0), none, some (.iload 8, 2, [8], 0, 0), none, some (.iload 4, 2, [4], 0, 0), none, some (.if_icmp .ne 7, 3, [156], 0, 0), none, none, some (.iconst 1, 1, [], 1, 0), some (.goto 4, 3, [157], 0, 0), none, none, some (.iconst 0, 1, [], 0, 0), some (.iadd, 1, [], 0, 0), some (.istore 6, 2, [6], 0, 0), none],
  [some (.iinc 7 1, 3, [7], 1, 0), none, none, some (.goto (-85), 3, [78], 0, 0), none, none, some (.aload_n 0, 1, [0], 0, 0), some (.iload_n 3, 1, [3], 0, 0), some (.ifCond .ne 8, 3, [176], 0, 0), none, none, some (.iload 4, 2, [4], 0, 0), none, some (.goto 15, 3, [188], 0, 0), none, none, some (.iload_n 3, 1, [3], 0, 0), some (.iconst 1, 1, [], 1, 0), some (.if_icmp .ne 8, 3, [186], 0, 0), none, none, some (.iload 5, 2, [5], 0, 0), none, some (.goto 5, 3, [188], 0, 0), none, none, some (.iload 6, 2, [6], 0, 0), none, some (.invokevirtual 180, 3, [0, 169, 2, 0], 0, 0), none, none, some (.ireturn, 1, [], 0, 0)]]
def F_M_quarrel_143 (N : Nat) (bk : (Int32 → Int32 → Int32 → Int32 → Int32 → MH → Option (Int32 × MH))) (a3 : Int32) (a4 : Int32) (a5 : Int32) (a6 : Int32) (a7 : Int32) (a8 : Int32) (h : MH) : Option (Int32 × MH) :=
  if a8 = a4 then
  (let v15 : Int32 := a6 + 1
  let v16 : Int32 := a7 + 1
  bk a3 a4 a5 v15 v16 h)
  else
  (let v17 : Int32 := a6 + 0
  let v18 : Int32 := a7 + 1
  bk a3 a4 a5 v17 v18 h)
def F_M_quarrel_78 (N : Nat) (bk : (Int32 → Int32 → Int32 → Int32 → Int32 → MH → Option (Int32 × MH))) (a3 : Int32) (a4 : Int32) (a5 : Int32) (a6 : Int32) (a7 : Int32) (h : MH) : Option (Int32 × MH) :=
  if (gI h 68 67) < a7 then
  (if a3 = 0 then
  ((f_M_gives N a4 h).bind (fun x9 =>
  some (x9.1, x9.2)))
  else
  (if a3 = 1 then
  ((f_M_gives N a5 h).bind (fun x10 =>
  some (x10.1, x10.2)))
  else
  ((f_M_gives N a6 h).bind (fun x11 =>
  some (x11.1, x11.2)))))
  else
  (if (a7 &&& ((gI h 68 67) ^^^ ((-1)))) = 0 then
  (if inB a7 256 = true then
  (if (gI h 106 (iN a7)) = 0 then
  ((f_M_bits N a7 h).bind (fun x12 =>
  if a4 = ((-1)) then
  (F_M_quarrel_143 N bk a3 x12.1 a7 0 a7 x12.1 x12.2)
  else
  (if a4 ≤ x12.1 then
  (F_M_quarrel_143 N bk a3 a4 a5 a6 a7 x12.1 x12.2)
  else
  (F_M_quarrel_143 N bk a3 x12.1 a7 0 a7 x12.1 x12.2))))
  else
  (let v13 : Int32 := a7 + 1
  bk a3 a4 a5 a6 v13 h))
  else none)
  else
  (let v14 : Int32 := a7 + 1
  bk a3 a4 a5 a6 v14 h))
def F_M_quarrel_0 (N : Nat) (bk : (Int32 → Int32 → Int32 → Int32 → Int32 → MH → Option (Int32 × MH))) (a1 : Int32) (a2 : Int32) (a3 : Int32) (h : MH) : Option (Int32 × MH) :=
  (f_M_areYears N a1 a2 h).bind (fun x1 =>
  if x1.1 = 0 then
  ((f_M_refuse N 1 x1.2).bind (fun x2 =>
  some (x2.1, x2.2)))
  else
  (if a3 < 0 then
  ((f_M_refuse N 1 x1.2).bind (fun x3 =>
  some (x3.1, x3.2)))
  else
  (if a3 ≤ 2 then
  (if (gI x1.2 68 32) = 0 then
  ((f_M_refuse N 6 x1.2).bind (fun x4 =>
  some (x4.1, x4.2)))
  else
  ((f_M_see N a1 a2 x1.2).bind (fun x5 =>
  (f_M_findSets N x5).bind (fun x6 =>
  if inB (gI x6 68 67) 256 = true then
  (if (gI x6 106 (iN (gI x6 68 67))) = 0 then
  (F_M_quarrel_78 N bk a3 ((-1)) 0 0 0 x6)
  else
  ((f_M_refuse N 6 x6).bind (fun x7 =>
  some (x7.1, x7.2))))
  else none))))
  else
  ((f_M_refuse N 1 x1.2).bind (fun x8 =>
  some (x8.1, x8.2))))))
def L_M_quarrel (N : Nat) : Nat → (Int32 → Int32 → Int32 → Int32 → Int32 → MH → Option (Int32 × MH))
  | 0 => fun _ _ _ _ _ _ => none
  | n + 1 => F_M_quarrel_78 N (L_M_quarrel N n)
def f_M_quarrel (N : Nat) (a1 : Int32) (a2 : Int32) (a3 : Int32) (h : MH) : Option (Int32 × MH) := F_M_quarrel_0 N (L_M_quarrel N N) a1 a2 a3 h
def C_M_quarrel (N : Nat) : MC := (KDL, false, (fun _ => 0), jsB, (fun j => match Nat.beq j 168 with
    | true => w_M_refuse (f_M_refuse N)
    | false => match Nat.beq j 169 with
    | true => w_M_gives (f_M_gives N)
    | false => match Nat.beq j 234 with
    | true => w_M_areYears (f_M_areYears N)
    | false => match Nat.beq j 241 with
    | true => w_M_bits (f_M_bits N)
    | false => fun _ _ => none), (fun _ _ _ => none), (fun _ _ _ => none), (fun j => match Nat.beq j 227 with
    | true => w_M_see (f_M_see N)
    | false => match Nat.beq j 240 with
    | true => w_M_findSets (f_M_findSets N)
    | false => fun _ _ => none))
def D_M_quarrel (N : Nat) (n pc : Nat) (lv : ML) (st : List MV) (h : MH) : Option (Int32 × MH) :=
  match Nat.beq pc 0 with
  | true => (match lk lv 0, lk lv 1, lk lv 2, lk lv 3, st with
    | some (.inr (.inr (0, 12, 68))), some (.inl a1), some (.inl a2), some (.inl a3), [] => F_M_quarrel_0 N (L_M_quarrel N n) a1 a2 a3 h
    | _, _, _, _, _ => none)
  | false => match Nat.beq pc 78 with
  | true => (match lk lv 0, lk lv 3, lk lv 4, lk lv 5, lk lv 6, lk lv 7, st with
    | some (.inr (.inr (0, 12, 68))), some (.inl a3), some (.inl a4), some (.inl a5), some (.inl a6), some (.inl a7), [] => F_M_quarrel_78 N (L_M_quarrel N n) a3 a4 a5 a6 a7 h
    | _, _, _, _, _, _, _ => none)
  | false => match Nat.beq pc 143 with
  | true => (match lk lv 0, lk lv 3, lk lv 4, lk lv 5, lk lv 6, lk lv 7, lk lv 8, st with
    | some (.inr (.inr (0, 12, 68))), some (.inl a3), some (.inl a4), some (.inl a5), some (.inl a6), some (.inl a7), some (.inl a8), [] => F_M_quarrel_143 N (L_M_quarrel N n) a3 a4 a5 a6 a7 a8 h
    | _, _, _, _, _, _, _, _ => none)
  | false => none
def B_M_quarrel (N : Nat) (n pc : Nat) (lv : ML) (st : List MV) (h : MH) : Option (Int32 × MH) :=
  match Nat.beq pc 78 with
  | true => (match lk lv 0, lk lv 3, lk lv 4, lk lv 5, lk lv 6, lk lv 7, st with
    | some (.inr (.inr (0, 12, 68))), some (.inl a3), some (.inl a4), some (.inl a5), some (.inl a6), some (.inl a7), [] => ((L_M_quarrel N n)) a3 a4 a5 a6 a7 h
    | _, _, _, _, _, _, _ => none)
  | false => none
set_option maxRecDepth 1000000 in
theorem E_M_quarrel_0 (N : Nat) (n : Nat) (a1 : Int32) (a2 : Int32) (a3 : Int32) (h : MH) : seg (C_M_quarrel N) 9 0 rI T_M_quarrel [0, 78, 143] (fun q lv st h => match Nat.ble 1 q with
    | true => D_M_quarrel N n q lv st h
    | false => B_M_quarrel N n q lv st h) 400 true 0 [(0, .inr (.inr (0, 12, 68))), (1, .inl a1), (2, .inl a2), (3, .inl a3)] [] h = F_M_quarrel_0 N (L_M_quarrel N n) a1 a2 a3 h := (rfl)
set_option maxRecDepth 1000000 in
theorem E_M_quarrel_78 (N : Nat) (n : Nat) (a3 : Int32) (a4 : Int32) (a5 : Int32) (a6 : Int32) (a7 : Int32) (h : MH) : seg (C_M_quarrel N) 9 0 rI T_M_quarrel [0, 78, 143] (fun q lv st h => match Nat.ble 79 q with
    | true => D_M_quarrel N n q lv st h
    | false => B_M_quarrel N n q lv st h) 400 true 78 [(0, .inr (.inr (0, 12, 68))), (3, .inl a3), (4, .inl a4), (5, .inl a5), (6, .inl a6), (7, .inl a7)] [] h = F_M_quarrel_78 N (L_M_quarrel N n) a3 a4 a5 a6 a7 h := (rfl)
set_option maxRecDepth 1000000 in
theorem E_M_quarrel_143 (N : Nat) (n : Nat) (a3 : Int32) (a4 : Int32) (a5 : Int32) (a6 : Int32) (a7 : Int32) (a8 : Int32) (h : MH) : seg (C_M_quarrel N) 9 0 rI T_M_quarrel [0, 78, 143] (fun q lv st h => match Nat.ble 144 q with
    | true => D_M_quarrel N n q lv st h
    | false => B_M_quarrel N n q lv st h) 400 true 143 [(0, .inr (.inr (0, 12, 68))), (3, .inl a3), (4, .inl a4), (5, .inl a5), (6, .inl a6), (7, .inl a7), (8, .inl a8)] [] h = F_M_quarrel_143 N (L_M_quarrel N n) a3 a4 a5 a6 a7 a8 h := (rfl)
set_option maxRecDepth 1000000 in
theorem chk_M_quarrel : chkT 12 false prog_14_method_80_code T_M_quarrel = true := by decide +kernel
theorem mc_M_quarrel : mC 242 = prog_14_method_80_code := by rfl
theorem mx_M_quarrel : mL 242 = 9 ∧ mR 242 = some .int ∧ mK 242 = 1 ∧ (mN 242).cls = cN 12 := by decide +kernel
theorem hD_M_quarrel (N : Nat) {r : Int32 × MH} : ∀ n pc lv st h, D_M_quarrel N n pc lv st h = some r → ∃ lv', (∀ q ∈ lv', q ∈ lv) ∧ seg (C_M_quarrel N) 9 0 rI T_M_quarrel [0, 78, 143] (fun q lv st h => match Nat.ble (pc + 1) q with
    | true => D_M_quarrel N n q lv st h
    | false => B_M_quarrel N n q lv st h) 400 true pc lv' st h = some r := by
  intro n pc lv st h hf
  unfold D_M_quarrel at hf
  split at hf
  · rename_i hb
    have hb := Nat.eq_of_beq_eq_true hb
    subst hb
    split at hf
    · rename_i y0 y1 y2 e0 e1 e2 e3
      exact ⟨_, (sub_cons e0 (sub_cons e1 (sub_cons e2 (sub_cons e3 sub_nil)))), (E_M_quarrel_0 N n _ _ _ h).trans hf⟩
    · cases hf
  · skip
    split at hf
    · rename_i hb
      have hb := Nat.eq_of_beq_eq_true hb
      subst hb
      split at hf
      · rename_i y0 y1 y2 y3 y4 e0 e1 e2 e3 e4 e5
        exact ⟨_, (sub_cons e0 (sub_cons e1 (sub_cons e2 (sub_cons e3 (sub_cons e4 (sub_cons e5 sub_nil)))))), (E_M_quarrel_78 N n _ _ _ _ _ h).trans hf⟩
      · cases hf
    · skip
      split at hf
      · rename_i hb
        have hb := Nat.eq_of_beq_eq_true hb
        subst hb
        split at hf
        · rename_i y0 y1 y2 y3 y4 y5 e0 e1 e2 e3 e4 e5 e6
          exact ⟨_, (sub_cons e0 (sub_cons e1 (sub_cons e2 (sub_cons e3 (sub_cons e4 (sub_cons e5 (sub_cons e6 sub_nil))))))), (E_M_quarrel_143 N n _ _ _ _ _ _ h).trans hf⟩
        · cases hf
      · skip
        cases hf
theorem hM_M_quarrel (N : Nat) {r : Int32 × MH} : ∀ n pc lv st h, D_M_quarrel N n pc lv st h = some r → pc < 192 := by
  intro n pc lv st h hf
  unfold D_M_quarrel at hf
  split at hf
  · rename_i hb
    rw [Nat.eq_of_beq_eq_true hb]
    decide
  · skip
    split at hf
    · rename_i hb
      rw [Nat.eq_of_beq_eq_true hb]
      decide
    · skip
      split at hf
      · rename_i hb
        rw [Nat.eq_of_beq_eq_true hb]
        decide
      · skip
        cases hf
theorem hB_M_quarrel (N : Nat) {r : Int32 × MH} : ∀ n pc lv st h, B_M_quarrel N n pc lv st h = some r → ∃ k, n = k + 1 ∧ D_M_quarrel N k pc lv st h = some r := by
  intro n pc lv st h hf
  unfold B_M_quarrel at hf
  split at hf
  · rename_i hb
    have hb := Nat.eq_of_beq_eq_true hb
    subst hb
    cases n with
    | zero =>
      split at hf
      · cases hf
      · cases hf
    | succ k =>
      refine ⟨k, rfl, ?_⟩
      exact hf
  · skip
    cases hf
theorem s_M_quarrel {l : Launch} {E : EV} {N : Nat} {as : List MV} {h : MH} {r : Int32 × MH} (hf : w_M_quarrel (f_M_quarrel N) as h = some r) : SndM l E false 3 242 as h (some (.inl r.1)) r.2 := by
  unfold w_M_quarrel at hf
  split at hf
  · obtain ⟨m1, m2, m3, m4⟩ := mx_M_quarrel
    refine snd_of (C := C_M_quarrel N) (own := 12) (rz := 0) (lim := 115) rI_eq m2 m4 pl_242 (TB_in _ cw_242 rfl) ⟨(fun _ => ⟨_, _, _, _, _, _, rfl, rfl, by rw [m4]; rfl⟩), (fun z => by rw [m3] at z; cases z)⟩ (fun z => by cases z) KDL_take rfl rfl (fun z => by cases z) (fun z => by cases z) (fun _ => rfl) (by rw [m1]; exact Nat.le_of_ble_eq_true rfl)
      (fun j as h x z => by
      dsimp only [C_M_quarrel] at z
      cases hb : Nat.beq j 168 with
      | true =>
        have hb := Nat.eq_of_beq_eq_true hb
        subst hb
        exact ⟨0, by decide, (fun z => by cases z), s_M_refuse z⟩
      | false =>
        rw [hb] at z
        dsimp only at z
        cases hb : Nat.beq j 169 with
        | true =>
          have hb := Nat.eq_of_beq_eq_true hb
          subst hb
          exact ⟨0, by decide, (fun z => by cases z), s_M_gives z⟩
        | false =>
          rw [hb] at z
          dsimp only at z
          cases hb : Nat.beq j 234 with
          | true =>
            have hb := Nat.eq_of_beq_eq_true hb
            subst hb
            exact ⟨1, by decide, (fun z => by cases z), s_M_areYears z⟩
          | false =>
            rw [hb] at z
            dsimp only at z
            cases hb : Nat.beq j 241 with
            | true =>
              have hb := Nat.eq_of_beq_eq_true hb
              subst hb
              exact ⟨0, by decide, (fun z => by cases z), s_M_bits z⟩
            | false =>
              rw [hb] at z
              dsimp only at z
              cases z)
      (fun _ _ _ _ z => by cases z)
      (fun _ _ _ _ z => by cases z)
      (fun j as h x z => by
      dsimp only [C_M_quarrel] at z
      cases hb : Nat.beq j 227 with
      | true =>
        have hb := Nat.eq_of_beq_eq_true hb
        subst hb
        exact ⟨1, by decide, (fun z => by cases z), s_M_see z⟩
      | false =>
        rw [hb] at z
        dsimp only at z
        cases hb : Nat.beq j 240 with
        | true =>
          have hb := Nat.eq_of_beq_eq_true hb
          subst hb
          exact ⟨2, by decide, (fun z => by cases z), s_M_findSets z⟩
        | false =>
          rw [hb] at z
          dsimp only at z
          cases z)
      (fun p e R s m args below meth c Q n0 F hret => ?_)
    rw [m1] at F hret ⊢
    rw [mc_M_quarrel] at F hret
    exact cuts_s (K := 400) (M := 192) (D := D_M_quarrel N) (B := B_M_quarrel N) F hret (chkT_ok chk_M_quarrel) (hM_M_quarrel N) (hB_M_quarrel N) (hD_M_quarrel N) N 0 _ _ _ hf
  · cases hf
