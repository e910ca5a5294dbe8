theorem sub_nil {lv : ML} : ∀ q ∈ ([] : ML), q ∈ lv := fun q hq => by cases hq
theorem sub_cons {lv lv' : ML} {k : Nat} {v : MV} (h : lk lv k = some v) (hs : ∀ q ∈ lv', q ∈ lv) : ∀ q ∈ (k, v) :: lv', q ∈ lv := fun q hq => by
  rcases List.mem_cons.mp hq with rfl | hq
  · exact lk_mem _ _ _ h
  · exact hs q hq
def T_Math_max : List (List (Option RW)) := [
  [some (.iload_n 0, 1, [0], 0, 0), some (.iload_n 1, 1, [1], 0, 0), some (.if_icmp .lt 7, 3, [9], 0, 0), none, none, some (.iload_n 0, 1, [0], 0, 0), some (.goto 4, 3, [10], 0, 0), none, none, some (.iload_n 1, 1, [1], 0, 0), some (.ireturn, 1, [], 0, 0)]]
def f_Math_max (N : Nat) (a0 : Int32) (a1 : Int32) (h : MH) : Option (Int32 × MH) :=
  if a0 < a1 then
  (some (a1, h))
  else
  (some (a0, h))
def C_Math_max (N : Nat) : MC := (KDL, false, (fun _ => 0), jsB, (fun _ _ _ => none), (fun _ _ _ => none), (fun _ _ _ => none), (fun _ _ _ => none))
def D_Math_max (N : Nat) (n pc : Nat) (lv : ML) (st : List MV) (h : MH) : Option (Int32 × MH) :=
  match Nat.beq pc 0 with
  | true => (match lk lv 0, lk lv 1, st with
    | some (.inl a0), some (.inl a1), [] => f_Math_max N a0 a1 h
    | _, _, _ => none)
  | false => none
set_option maxRecDepth 1000000 in
theorem E_Math_max_0 (N : Nat) (n : Nat) (a0 : Int32) (a1 : Int32) (h : MH) : seg (C_Math_max N) 2 0 rI T_Math_max [0] (fun q lv st h => match Nat.ble 1 q with
    | true => D_Math_max N n q lv st h
    | false => none) 400 true 0 [(0, .inl a0), (1, .inl a1)] [] h = f_Math_max N a0 a1 h := (rfl)
set_option maxRecDepth 1000000 in
theorem chk_Math_max : chkT 16 false prog_17_method_65_code T_Math_max = true := by decide +kernel
theorem mc_Math_max : mC 260 = prog_17_method_65_code := by rfl
theorem mx_Math_max : mL 260 = 2 ∧ mR 260 = some .int ∧ mK 260 = 0 ∧ (mN 260).cls = cN 16 := by decide +kernel
theorem hD_Math_max (N : Nat) {r : Int32 × MH} : ∀ n pc lv st h, D_Math_max N n pc lv st h = some r → ∃ lv', (∀ q ∈ lv', q ∈ lv) ∧ seg (C_Math_max N) 2 0 rI T_Math_max [0] (fun q lv st h => match Nat.ble (pc + 1) q with
    | true => D_Math_max N n q lv st h
    | false => none) 400 true pc lv' st h = some r := by
  intro n pc lv st h hf
  unfold D_Math_max at hf
  split at hf
  · rename_i hb
    have hb := Nat.eq_of_beq_eq_true hb
    subst hb
    split at hf
    · rename_i y0 y1 e0 e1
      exact ⟨_, (sub_cons e0 (sub_cons e1 sub_nil)), (E_Math_max_0 N n _ _ h).trans hf⟩
    · cases hf
  · skip
    cases hf
theorem hM_Math_max (N : Nat) {r : Int32 × MH} : ∀ n pc lv st h, D_Math_max N n pc lv st h = some r → pc < 11 := by
  intro n pc lv st h hf
  unfold D_Math_max at hf
  split at hf
  · rename_i hb
    rw [Nat.eq_of_beq_eq_true hb]
    decide
  · skip
    cases hf
theorem s_Math_max {l : Launch} {E : EV} {N : Nat} {as : List MV} {h : MH} {r : Int32 × MH} (hf : w_Math_max (f_Math_max N) as h = some r) : SndM l E false 0 260 as h (some (.inl r.1)) r.2 := by
  unfold w_Math_max at hf
  split at hf
  · obtain ⟨m1, m2, m3, m4⟩ := mx_Math_max
    refine snd_of (C := C_Math_max N) (own := 16) (rz := 0) (lim := 115) rI_eq m2 m4 pl_260 (TB_in _ cw_260 rfl) ⟨(fun z => by rw [m3] at z; cases z), (fun z => by rw [m3] at z; cases z)⟩ (fun z => by cases z) KDL_take rfl rfl (fun z => by cases z) (fun z => by cases z) (fun _ => rfl) (by rw [m1]; exact Nat.le_of_ble_eq_true rfl)
      (fun _ _ _ _ z => by cases z)
      (fun _ _ _ _ z => by cases z)
      (fun _ _ _ _ z => by cases z)
      (fun _ _ _ _ z => by cases z)
      (fun p e R s m args below meth c Q n0 F hret => ?_)
    rw [m1] at F hret ⊢
    rw [mc_Math_max] at F hret
    exact cuts_s (K := 400) (M := 11) (D := D_Math_max N) (B := fun _ _ _ _ _ => none) F hret (chkT_ok chk_Math_max) (hM_Math_max N) (fun _ _ _ _ _ z => by cases z) (hD_Math_max N) N 0 _ _ _ hf
  · cases hf
def T_Math_min_II : List (List (Option RW)) := [
  [some (.iload_n 0, 1, [0], 0, 0), some (.iload_n 1, 1, [1], 0, 0), some (.if_icmp .gt 7, 3, [9], 0, 0), none, none, some (.iload_n 0, 1, [0], 0, 0), some (.goto 4, 3, [10], 0, 0), none, none, some (.iload_n 1, 1, [1], 0, 0), some (.ireturn, 1, [], 0, 0)]]
def f_Math_min_II (N : Nat) (a0 : Int32) (a1 : Int32) (h : MH) : Option (Int32 × MH) :=
  if a1 < a0 then
  (some (a1, h))
  else
  (some (a0, h))
def C_Math_min_II (N : Nat) : MC := (KDL, false, (fun _ => 0), jsB, (fun _ _ _ => none), (fun _ _ _ => none), (fun _ _ _ => none), (fun _ _ _ => none))
def D_Math_min_II (N : Nat) (n pc : Nat) (lv : ML) (st : List MV) (h : MH) : Option (Int32 × MH) :=
  match Nat.beq pc 0 with
  | true => (match lk lv 0, lk lv 1, st with
    | some (.inl a0), some (.inl a1), [] => f_Math_min_II N a0 a1 h
    | _, _, _ => none)
  | false => none
set_option maxRecDepth 1000000 in
theorem E_Math_min_II_0 (N : Nat) (n : Nat) (a0 : Int32) (a1 : Int32) (h : MH) : seg (C_Math_min_II N) 2 0 rI T_Math_min_II [0] (fun q lv st h => match Nat.ble 1 q with
    | true => D_Math_min_II N n q lv st h
    | false => none) 400 true 0 [(0, .inl a0), (1, .inl a1)] [] h = f_Math_min_II N a0 a1 h := (rfl)
set_option maxRecDepth 1000000 in
theorem chk_Math_min_II : chkT 16 false prog_17_method_69_code T_Math_min_II = true := by decide +kernel
theorem mc_Math_min_II : mC 261 = prog_17_method_69_code := by rfl
theorem mx_Math_min_II : mL 261 = 2 ∧ mR 261 = some .int ∧ mK 261 = 0 ∧ (mN 261).cls = cN 16 := by decide +kernel
theorem hD_Math_min_II (N : Nat) {r : Int32 × MH} : ∀ n pc lv st h, D_Math_min_II N n pc lv st h = some r → ∃ lv', (∀ q ∈ lv', q ∈ lv) ∧ seg (C_Math_min_II N) 2 0 rI T_Math_min_II [0] (fun q lv st h => match Nat.ble (pc + 1) q with
    | true => D_Math_min_II N n q lv st h
    | false => none) 400 true pc lv' st h = some r := by
  intro n pc lv st h hf
  unfold D_Math_min_II at hf
  split at hf
  · rename_i hb
    have hb := Nat.eq_of_beq_eq_true hb
    subst hb
    split at hf
    · rename_i y0 y1 e0 e1
      exact ⟨_, (sub_cons e0 (sub_cons e1 sub_nil)), (E_Math_min_II_0 N n _ _ h).trans hf⟩
    · cases hf
  · skip
    cases hf
theorem hM_Math_min_II (N : Nat) {r : Int32 × MH} : ∀ n pc lv st h, D_Math_min_II N n pc lv st h = some r → pc < 11 := by
  intro n pc lv st h hf
  unfold D_Math_min_II at hf
  split at hf
  · rename_i hb
    rw [Nat.eq_of_beq_eq_true hb]
    decide
  · skip
    cases hf
theorem s_Math_min_II {l : Launch} {E : EV} {N : Nat} {as : List MV} {h : MH} {r : Int32 × MH} (hf : w_Math_min_II (f_Math_min_II N) as h = some r) : SndM l E false 0 261 as h (some (.inl r.1)) r.2 := by
  unfold w_Math_min_II at hf
  split at hf
  · obtain ⟨m1, m2, m3, m4⟩ := mx_Math_min_II
    refine snd_of (C := C_Math_min_II N) (own := 16) (rz := 0) (lim := 115) rI_eq m2 m4 pl_261 (TB_in _ cw_261 rfl) ⟨(fun z => by rw [m3] at z; cases z), (fun z => by rw [m3] at z; cases z)⟩ (fun z => by cases z) KDL_take rfl rfl (fun z => by cases z) (fun z => by cases z) (fun _ => rfl) (by rw [m1]; exact Nat.le_of_ble_eq_true rfl)
      (fun _ _ _ _ z => by cases z)
      (fun _ _ _ _ z => by cases z)
      (fun _ _ _ _ z => by cases z)
      (fun _ _ _ _ z => by cases z)
      (fun p e R s m args below meth c Q n0 F hret => ?_)
    rw [m1] at F hret ⊢
    rw [mc_Math_min_II] at F hret
    exact cuts_s (K := 400) (M := 11) (D := D_Math_min_II N) (B := fun _ _ _ _ _ => none) F hret (chkT_ok chk_Math_min_II) (hM_Math_min_II N) (fun _ _ _ _ _ z => by cases z) (hD_Math_min_II N) N 0 _ _ _ hf
  · cases hf
def T_Arrays_fill_AII : List (List (Option RW)) := [
  [some (.iconst 0, 1, [], 0, 0), some (.istore_n 2, 1, [2], 0, 0), some (.aload_n 0, 1, [0], 0, 0), some (.arraylength, 1, [], 0, 0), some (.istore_n 3, 1, [3], 0, 0), some (.iload_n 2, 1, [2], 0, 0), some (.iload_n 3, 1, [3], 0, 0), some (.if_icmp .ge 13, 3, [20], 0, 0), none, none, some (.aload_n 0, 1, [0], 0, 0), some (.iload_n 2, 1, [2], 0, 0), some (.iload_n 1, 1, [1], 0, 0), some (.iastore, 1, [], 0, 0), some (.iinc 2 1, 3, [2], 1, 0), none, none, some (.goto (-12), 3, [5], 0, 0), none, none, some (.return_, 1, [], 0, 0)]]
def F_Arrays_fill_AII_5 (N : Nat) (bk : (Nat → Nat → Int32 → Int32 → Int32 → MH → Option (MH))) (q0 : Nat) (r0 : Nat) (a1 : Int32) (a2 : Int32) (a3 : Int32) (h : MH) : Option (MH) :=
  if a3 ≤ a2 then
  (some h)
  else
  (if inB a2 q0 = true then
  (let h2 : MH := sI h r0 (iN a2) a1
  let v3 : Int32 := a2 + 1
  bk q0 r0 a1 v3 a3 h2)
  else none)
def F_Arrays_fill_AII_0 (N : Nat) (bk : (Nat → Nat → Int32 → Int32 → Int32 → MH → Option (MH))) (q0 : Nat) (r0 : Nat) (a1 : Int32) (h : MH) : Option (MH) :=
  let v1 : Int32 := nI q0
  F_Arrays_fill_AII_5 N bk q0 r0 a1 0 v1 h
def L_Arrays_fill_AII (N : Nat) : Nat → (Nat → Nat → Int32 → Int32 → Int32 → MH → Option (MH))
  | 0 => fun _ _ _ _ _ _ => none
  | n + 1 => F_Arrays_fill_AII_5 N (L_Arrays_fill_AII N n)
def f_Arrays_fill_AII (N : Nat) (q0 : Nat) (r0 : Nat) (a1 : Int32) (h : MH) : Option (MH) := F_Arrays_fill_AII_0 N (L_Arrays_fill_AII N N) q0 r0 a1 h
def C_Arrays_fill_AII (N : Nat) : MC := (KDL, false, (fun _ => 0), jsB, (fun _ _ _ => none), (fun _ _ _ => none), (fun _ _ _ => none), (fun _ _ _ => none))
def D_Arrays_fill_AII (N : Nat) (n pc : Nat) (lv : ML) (st : List MV) (h : MH) : Option (MH) :=
  match Nat.beq pc 0 with
  | true => (match lk lv 0, lk lv 1, st with
    | some (.inr (.inr (1, q0, r0))), some (.inl a1), [] => F_Arrays_fill_AII_0 N (L_Arrays_fill_AII N n) q0 r0 a1 h
    | _, _, _ => none)
  | false => match Nat.beq pc 5 with
  | true => (match lk lv 0, lk lv 1, lk lv 2, lk lv 3, st with
    | some (.inr (.inr (1, q0, r0))), some (.inl a1), some (.inl a2), some (.inl a3), [] => F_Arrays_fill_AII_5 N (L_Arrays_fill_AII N n) q0 r0 a1 a2 a3 h
    | _, _, _, _, _ => none)
  | false => none
def B_Arrays_fill_AII (N : Nat) (n pc : Nat) (lv : ML) (st : List MV) (h : MH) : Option (MH) :=
  match Nat.beq pc 5 with
  | true => (match lk lv 0, lk lv 1, lk lv 2, lk lv 3, st with
    | some (.inr (.inr (1, q0, r0))), some (.inl a1), some (.inl a2), some (.inl a3), [] => ((L_Arrays_fill_AII N n)) q0 r0 a1 a2 a3 h
    | _, _, _, _, _ => none)
  | false => none
set_option maxRecDepth 1000000 in
theorem E_Arrays_fill_AII_0 (N : Nat) (n : Nat) (q0 : Nat) (r0 : Nat) (a1 : Int32) (h : MH) : seg (C_Arrays_fill_AII N) 4 0 rV T_Arrays_fill_AII [0, 5] (fun q lv st h => match Nat.ble 1 q with
    | true => D_Arrays_fill_AII N n q lv st h
    | false => B_Arrays_fill_AII N n q lv st h) 400 true 0 [(0, .inr (.inr (1, q0, r0))), (1, .inl a1)] [] h = F_Arrays_fill_AII_0 N (L_Arrays_fill_AII N n) q0 r0 a1 h := (rfl)
set_option maxRecDepth 1000000 in
theorem E_Arrays_fill_AII_5 (N : Nat) (n : Nat) (q0 : Nat) (r0 : Nat) (a1 : Int32) (a2 : Int32) (a3 : Int32) (h : MH) : seg (C_Arrays_fill_AII N) 4 0 rV T_Arrays_fill_AII [0, 5] (fun q lv st h => match Nat.ble 6 q with
    | true => D_Arrays_fill_AII N n q lv st h
    | false => B_Arrays_fill_AII N n q lv st h) 400 true 5 [(0, .inr (.inr (1, q0, r0))), (1, .inl a1), (2, .inl a2), (3, .inl a3)] [] h = F_Arrays_fill_AII_5 N (L_Arrays_fill_AII N n) q0 r0 a1 a2 a3 h := (rfl)
set_option maxRecDepth 1000000 in
theorem chk_Arrays_fill_AII : chkT 19 false prog_22_method_103_code T_Arrays_fill_AII = true := by decide +kernel
theorem mc_Arrays_fill_AII : mC 274 = prog_22_method_103_code := by rfl
theorem mx_Arrays_fill_AII : mL 274 = 4 ∧ mR 274 = none ∧ mK 274 = 0 ∧ (mN 274).cls = cN 19 := by decide +kernel
theorem hD_Arrays_fill_AII (N : Nat) {r : MH} : ∀ n pc lv st h, D_Arrays_fill_AII N n pc lv st h = some r → ∃ lv', (∀ q ∈ lv', q ∈ lv) ∧ seg (C_Arrays_fill_AII N) 4 0 rV T_Arrays_fill_AII [0, 5] (fun q lv st h => match Nat.ble (pc + 1) q with
    | true => D_Arrays_fill_AII N n q lv st h
    | false => B_Arrays_fill_AII N n q lv st h) 400 true pc lv' st h = some r := by
  intro n pc lv st h hf
  unfold D_Arrays_fill_AII at hf
  split at hf
  · rename_i hb
    have hb := Nat.eq_of_beq_eq_true hb
    subst hb
    split at hf
    · rename_i y0 y1 y2 e0 e1
      exact ⟨_, (sub_cons e0 (sub_cons e1 sub_nil)), (E_Arrays_fill_AII_0 N n _ _ _ h).trans hf⟩
    · cases hf
  · skip
    split at hf
    · rename_i hb
      have hb := Nat.eq_of_beq_eq_true hb
      subst hb
      split at hf
      · rename_i y0 y1 y2 y3 y4 e0 e1 e2 e3
        exact ⟨_, (sub_cons e0 (sub_cons e1 (sub_cons e2 (sub_cons e3 sub_nil)))), (E_Arrays_fill_AII_5 N n _ _ _ _ _ h).trans hf⟩
      · cases hf
    · skip
      cases hf
theorem hM_Arrays_fill_AII (N : Nat) {r : MH} : ∀ n pc lv st h, D_Arrays_fill_AII N n pc lv st h = some r → pc < 21 := by
  intro n pc lv st h hf
  unfold D_Arrays_fill_AII at hf
  split at hf
  · rename_i hb
    rw [Nat.eq_of_beq_eq_true hb]
    decide
  · skip
    split at hf
    · rename_i hb
      rw [Nat.eq_of_beq_eq_true hb]
      decide
    · skip
      cases hf
theorem hB_Arrays_fill_AII (N : Nat) {r : MH} : ∀ n pc lv st h, B_Arrays_fill_AII N n pc lv st h = some r → ∃ k, n = k + 1 ∧ D_Arrays_fill_AII N k pc lv st h = some r := by
  intro n pc lv st h hf
  unfold B_Arrays_fill_AII at hf
  split at hf
  · rename_i hb
    have hb := Nat.eq_of_beq_eq_true hb
    subst hb
    cases n with
    | zero =>
      split at hf
      · cases hf
      · cases hf
    | succ k =>
      refine ⟨k, rfl, ?_⟩
      exact hf
  · skip
    cases hf
theorem s_Arrays_fill_AII {l : Launch} {E : EV} {N : Nat} {as : List MV} {h : MH} {r : MH} (hf : w_Arrays_fill_AII (f_Arrays_fill_AII N) as h = some r) : SndM l E false 0 274 as h none r := by
  unfold w_Arrays_fill_AII at hf
  split at hf
  · obtain ⟨m1, m2, m3, m4⟩ := mx_Arrays_fill_AII
    refine snd_of (C := C_Arrays_fill_AII N) (own := 19) (rz := 0) (lim := 115) rV_eq m2 m4 pl_274 (TB_in _ cw_274 rfl) ⟨(fun z => by rw [m3] at z; cases z), (fun z => by rw [m3] at z; cases z)⟩ (fun z => by cases z) KDL_take rfl rfl (fun z => by cases z) (fun z => by cases z) (fun _ => rfl) (by rw [m1]; exact Nat.le_of_ble_eq_true rfl)
      (fun _ _ _ _ z => by cases z)
      (fun _ _ _ _ z => by cases z)
      (fun _ _ _ _ z => by cases z)
      (fun _ _ _ _ z => by cases z)
      (fun p e R s m args below meth c Q n0 F hret => ?_)
    rw [m1] at F hret ⊢
    rw [mc_Arrays_fill_AII] at F hret
    exact cuts_s (K := 400) (M := 21) (D := D_Arrays_fill_AII N) (B := B_Arrays_fill_AII N) F hret (chkT_ok chk_Arrays_fill_AII) (hM_Arrays_fill_AII N) (hB_Arrays_fill_AII N) (hD_Arrays_fill_AII N) N 0 _ _ _ hf
  · cases hf
def T_Asked_boundRests : List (List (Option RW)) := [
  [some (.aload_n 0, 1, [0], 0, 0), some (.getfield 34, 3, [0, 7, 2, 1, 56, 5], 0, 0), none, none, some (.iconst 0, 1, [], 0, 0), some (.invokestatic 77, 3, [2, 274, 2, 3], 0, 0), none, none, some (.aload_n 0, 1, [0], 0, 0), some (.getfield 37, 3, [0, 8, 2, 1, 56, 6], 0, 0), none, none, some (.iconst 0, 1, [], 0, 0), some (.invokestatic 77, 3, [2, 274, 2, 3], 0, 0), none, none, some (.aload_n 0, 1, [0], 0, 0), some (.getfield 9, 3, [0, 0, 0], 0, 0), none, none, some (.bipush 8, 2, [], 8, 0), none, some (.imul, 1, [], 0, 0), some (.iconst 1, 1, [], 1, 0), some (.isub, 1, [], 0, 0), some (.istore_n 1, 1, [1], 0, 0), some (.iload_n 1, 1, [1], 0, 0), some (.ifCond .lt 61, 3, [88], 0, 0), none, none, some (.aload_n 0, 1, [0], 0, 0), some (.getfield 21, 3, [0, 3, 2, 1, 48, 1], 0, 0)],
  [none, none, some (.iload_n 1, 1, [1], 0, 0), some (.iaload, 1, [], 0, 0), some (.bipush 9, 2, [], 9, 0), none, some (.imul, 1, [], 0, 0), some (.istore_n 2, 1, [2], 0, 0), some (.aload_n 0, 1, [0], 0, 0), some (.getfield 34, 3, [0, 7, 2, 1, 56, 5], 0, 0), none, none, some (.iload_n 1, 1, [1], 0, 0), some (.aload_n 0, 1, [0], 0, 0), some (.getfield 34, 3, [0, 7, 2, 1, 56, 5], 0, 0), none, none, some (.iload_n 1, 1, [1], 0, 0), some (.bipush 8, 2, [], 8, 0), none, some (.iadd, 1, [], 0, 0), some (.iaload, 1, [], 0, 0), some (.iload_n 2, 1, [2], 0, 0), some (.iconst 0, 1, [], 0, 0), some (.invokestatic 83, 3, [2, 261, 2, 0], 0, 0), none, none, some (.iadd, 1, [], 0, 0), some (.iastore, 1, [], 0, 0), some (.aload_n 0, 1, [0], 0, 0), some (.getfield 37, 3, [0, 8, 2, 1, 56, 6], 0, 0), none],
  [none, some (.iload_n 1, 1, [1], 0, 0), some (.aload_n 0, 1, [0], 0, 0), some (.getfield 37, 3, [0, 8, 2, 1, 56, 6], 0, 0), none, none, some (.iload_n 1, 1, [1], 0, 0), some (.bipush 8, 2, [], 8, 0), none, some (.iadd, 1, [], 0, 0), some (.iaload, 1, [], 0, 0), some (.iload_n 2, 1, [2], 0, 0), some (.iconst 0, 1, [], 0, 0), some (.invokestatic 89, 3, [2, 260, 2, 0], 0, 0), none, none, some (.iadd, 1, [], 0, 0), some (.iastore, 1, [], 0, 0), some (.iinc 1 (-1), 3, [1], (-1), 0), none, none, some (.goto (-59), 3, [26], 0, 0), none, none, some (.return_, 1, [], 0, 0)]]
def F_Asked_boundRests_26 (N : Nat) (bk : (Int32 → MH → Option (MH))) (a1 : Int32) (h : MH) : Option (MH) :=
  if a1 < 0 then
  (some h)
  else
  (if inB a1 48 = true then
  (let v4 : Int32 := (gI h 34 (iN a1)) * 9
  if inB (a1 + 8) 56 = true then
  ((f_Math_min_II N v4 0 h).bind (fun x5 =>
  if inB a1 56 = true then
  (let h6 : MH := sI x5.2 38 (iN a1) ((gI h 38 (iN (a1 + 8))) + x5.1)
  if inB (a1 + 8) 56 = true then
  ((f_Math_max N v4 0 h6).bind (fun x7 =>
  if inB a1 56 = true then
  (let h8 : MH := sI x7.2 39 (iN a1) ((gI h6 39 (iN (a1 + 8))) + x7.1)
  let v9 : Int32 := a1 + (-1)
  bk v9 h8)
  else none))
  else none)
  else none))
  else none)
  else none)
def F_Asked_boundRests_0 (N : Nat) (bk : (Int32 → MH → Option (MH))) (h : MH) : Option (MH) :=
  (f_Arrays_fill_AII N 56 38 0 h).bind (fun x1 =>
  (f_Arrays_fill_AII N 56 39 0 x1).bind (fun x2 =>
  let v3 : Int32 := ((gI x2 33 0) * 8) - 1
  F_Asked_boundRests_26 N bk v3 x2))
def L_Asked_boundRests (N : Nat) : Nat → (Int32 → MH → Option (MH))
  | 0 => fun _ _ => none
  | n + 1 => F_Asked_boundRests_26 N (L_Asked_boundRests N n)
def f_Asked_boundRests (N : Nat) (h : MH) : Option (MH) := F_Asked_boundRests_0 N (L_Asked_boundRests N N) h
def C_Asked_boundRests (N : Nat) : MC := (KDL, false, (fun _ => 0), jsB, (fun j => match Nat.beq j 260 with
    | true => w_Math_max (f_Math_max N)
    | false => match Nat.beq j 261 with
    | true => w_Math_min_II (f_Math_min_II N)
    | false => fun _ _ => none), (fun _ _ _ => none), (fun _ _ _ => none), (fun j => match Nat.beq j 274 with
    | true => w_Arrays_fill_AII (f_Arrays_fill_AII N)
    | false => fun _ _ => none))
def D_Asked_boundRests (N : Nat) (n pc : Nat) (lv : ML) (st : List MV) (h : MH) : Option (MH) :=
  match Nat.beq pc 0 with
  | true => (match lk lv 0, st with
    | some (.inr (.inr (0, 0, 33))), [] => F_Asked_boundRests_0 N (L_Asked_boundRests N n) h
    | _, _ => none)
  | false => match Nat.beq pc 26 with
  | true => (match lk lv 0, lk lv 1, st with
    | some (.inr (.inr (0, 0, 33))), some (.inl a1), [] => F_Asked_boundRests_26 N (L_Asked_boundRests N n) a1 h
    | _, _, _ => none)
  | false => none
def B_Asked_boundRests (N : Nat) (n pc : Nat) (lv : ML) (st : List MV) (h : MH) : Option (MH) :=
  match Nat.beq pc 26 with
  | true => (match lk lv 0, lk lv 1, st with
    | some (.inr (.inr (0, 0, 33))), some (.inl a1), [] => ((L_Asked_boundRests N n)) a1 h
    | _, _, _ => none)
  | false => none
set_option maxRecDepth 1000000 in
theorem E_Asked_boundRests_0 (N : Nat) (n : Nat) (h : MH) : seg (C_Asked_boundRests N) 3 0 rV T_Asked_boundRests [0, 26] (fun q lv st h => match Nat.ble 1 q with
    | true => D_Asked_boundRests N n q lv st h
    | false => B_Asked_boundRests N n q lv st h) 400 true 0 [(0, .inr (.inr (0, 0, 33)))] [] h = F_Asked_boundRests_0 N (L_Asked_boundRests N n) h := (rfl)
set_option maxRecDepth 1000000 in
theorem E_Asked_boundRests_26 (N : Nat) (n : Nat) (a1 : Int32) (h : MH) : seg (C_Asked_boundRests N) 3 0 rV T_Asked_boundRests [0, 26] (fun q lv st h => match Nat.ble 27 q with
    | true => D_Asked_boundRests N n q lv st h
    | false => B_Asked_boundRests N n q lv st h) 400 true 26 [(0, .inr (.inr (0, 0, 33))), (1, .inl a1)] [] h = F_Asked_boundRests_26 N (L_Asked_boundRests N n) a1 h := (rfl)
set_option maxRecDepth 1000000 in
theorem chk_Asked_boundRests : chkT 0 false prog_2_method_3_code T_Asked_boundRests = true := by decide +kernel
theorem mc_Asked_boundRests : mC 2 = prog_2_method_3_code := by rfl
theorem mx_Asked_boundRests : mL 2 = 3 ∧ mR 2 = none ∧ mK 2 = 1 ∧ (mN 2).cls = cN 0 := by decide +kernel
theorem hD_Asked_boundRests (N : Nat) {r : MH} : ∀ n pc lv st h, D_Asked_boundRests N n pc lv st h = some r → ∃ lv', (∀ q ∈ lv', q ∈ lv) ∧ seg (C_Asked_boundRests N) 3 0 rV T_Asked_boundRests [0, 26] (fun q lv st h => match Nat.ble (pc + 1) q with
    | true => D_Asked_boundRests N n q lv st h
    | false => B_Asked_boundRests N n q lv st h) 400 true pc lv' st h = some r := by
  intro n pc lv st h hf
  unfold D_Asked_boundRests at hf
  split at hf
  · rename_i hb
    have hb := Nat.eq_of_beq_eq_true hb
    subst hb
    split at hf
    · rename_i e0
      exact ⟨_, (sub_cons e0 sub_nil), (E_Asked_boundRests_0 N n h).trans hf⟩
    · cases hf
  · skip
    split at hf
    · rename_i hb
      have hb := Nat.eq_of_beq_eq_true hb
      subst hb
      split at hf
      · rename_i y0 e0 e1
        exact ⟨_, (sub_cons e0 (sub_cons e1 sub_nil)), (E_Asked_boundRests_26 N n _ h).trans hf⟩
      · cases hf
    · skip
      cases hf
theorem hM_Asked_boundRests (N : Nat) {r : MH} : ∀ n pc lv st h, D_Asked_boundRests N n pc lv st h = some r → pc < 89 := by
  intro n pc lv st h hf
  unfold D_Asked_boundRests at hf
  split at hf
  · rename_i hb
    rw [Nat.eq_of_beq_eq_true hb]
    decide
  · skip
    split at hf
    · rename_i hb
      rw [Nat.eq_of_beq_eq_true hb]
      decide
    · skip
      cases hf
theorem hB_Asked_boundRests (N : Nat) {r : MH} : ∀ n pc lv st h, B_Asked_boundRests N n pc lv st h = some r → ∃ k, n = k + 1 ∧ D_Asked_boundRests N k pc lv st h = some r := by
  intro n pc lv st h hf
  unfold B_Asked_boundRests at hf
  split at hf
  · rename_i hb
    have hb := Nat.eq_of_beq_eq_true hb
    subst hb
    cases n with
    | zero =>
      split at hf
      · cases hf
      · cases hf
    | succ k =>
      refine ⟨k, rfl, ?_⟩
      exact hf
  · skip
    cases hf
theorem s_Asked_boundRests {l : Launch} {E : EV} {N : Nat} {as : List MV} {h : MH} {r : MH} (hf : w_Asked_boundRests (f_Asked_boundRests N) as h = some r) : SndM l E false 1 2 as h none r := by
  unfold w_Asked_boundRests at hf
  split at hf
  · obtain ⟨m1, m2, m3, m4⟩ := mx_Asked_boundRests
    refine snd_of (C := C_Asked_boundRests N) (own := 0) (rz := 0) (lim := 115) rV_eq m2 m4 pl_2 (TB_in _ cw_2 rfl) ⟨(fun _ => ⟨_, _, _, _, _, _, rfl, rfl, by rw [m4]; rfl⟩), (fun z => by rw [m3] at z; cases z)⟩ (fun z => by cases z) KDL_take rfl rfl (fun z => by cases z) (fun z => by cases z) (fun _ => rfl) (by rw [m1]; exact Nat.le_of_ble_eq_true rfl)
      (fun j as h x z => by
      dsimp only [C_Asked_boundRests] at z
      cases hb : Nat.beq j 260 with
      | true =>
        have hb := Nat.eq_of_beq_eq_true hb
        subst hb
        exact ⟨0, by decide, (fun z => by cases z), s_Math_max z⟩
      | false =>
        rw [hb] at z
        dsimp only at z
        cases hb : Nat.beq j 261 with
        | true =>
          have hb := Nat.eq_of_beq_eq_true hb
          subst hb
          exact ⟨0, by decide, (fun z => by cases z), s_Math_min_II z⟩
        | false =>
          rw [hb] at z
          dsimp only at z
          cases z)
      (fun _ _ _ _ z => by cases z)
      (fun _ _ _ _ z => by cases z)
      (fun j as h x z => by
      dsimp only [C_Asked_boundRests] at z
      cases hb : Nat.beq j 274 with
      | true =>
        have hb := Nat.eq_of_beq_eq_true hb
        subst hb
        exact ⟨0, by decide, (fun z => by cases z), s_Arrays_fill_AII z⟩
      | false =>
        rw [hb] at z
        dsimp only at z
        cases z)
      (fun p e R s m args below meth c Q n0 F hret => ?_)
    rw [m1] at F hret ⊢
    rw [mc_Asked_boundRests] at F hret
    exact cuts_s (K := 400) (M := 89) (D := D_Asked_boundRests N) (B := B_Asked_boundRests N) F hret (chkT_ok chk_Asked_boundRests) (hM_Asked_boundRests N) (hB_Asked_boundRests N) (hD_Asked_boundRests N) N 0 _ _ _ hf
  · cases hf
def T_Ledger_counts : List (List (Option RW)) := [
  [some (.aload_n 0, 1, [0], 0, 0), some (.getfield 9, 3, [3, 0, 2, 1, 160, 1], 0, 0), none, none, some (.iload_n 1, 1, [1], 0, 0), some (.iaload, 1, [], 0, 0), some (.iload_n 2, 1, [2], 0, 0), some (.if_icmp .ne 20, 3, [27], 0, 0), none, none, some (.aload_n 0, 1, [0], 0, 0), some (.getfield 24, 3, [3, 4, 2, 1, 160, 5], 0, 0), none, none, some (.iload_n 1, 1, [1], 0, 0), some (.iaload, 1, [], 0, 0), some (.aload_n 0, 1, [0], 0, 0), some (.getfield 46, 3, [3, 11, 0], 0, 0), none, none, some (.if_icmp .gt 7, 3, [27], 0, 0), none, none, some (.iconst 1, 1, [], 1, 0), some (.goto 4, 3, [28], 0, 0), none, none, some (.iconst 0, 1, [], 0, 0), some (.ireturn, 1, [], 0, 0)]]
def f_Ledger_counts (N : Nat) (a1 : Int32) (a2 : Int32) (h : MH) : Option (Int32 × MH) :=
  if inB a1 160 = true then
  (if (gI h 17 (iN a1)) = a2 then
  (if inB a1 160 = true then
  (if (gI h 16 11) < (gI h 21 (iN a1)) then
  (some (0, h))
  else
  (some (1, h)))
  else none)
  else
  (some (0, h)))
  else none
def C_Ledger_counts (N : Nat) : MC := (KDL, false, (fun _ => 0), jsB, (fun _ _ _ => none), (fun _ _ _ => none), (fun _ _ _ => none), (fun _ _ _ => none))
def D_Ledger_counts (N : Nat) (n pc : Nat) (lv : ML) (st : List MV) (h : MH) : Option (Int32 × MH) :=
  match Nat.beq pc 0 with
  | true => (match lk lv 0, lk lv 1, lk lv 2, st with
    | some (.inr (.inr (0, 3, 16))), some (.inl a1), some (.inl a2), [] => f_Ledger_counts N a1 a2 h
    | _, _, _, _ => none)
  | false => none
set_option maxRecDepth 1000000 in
theorem E_Ledger_counts_0 (N : Nat) (n : Nat) (a1 : Int32) (a2 : Int32) (h : MH) : seg (C_Ledger_counts N) 3 1 rI T_Ledger_counts [0] (fun q lv st h => match Nat.ble 1 q with
    | true => D_Ledger_counts N n q lv st h
    | false => none) 400 true 0 [(0, .inr (.inr (0, 3, 16))), (1, .inl a1), (2, .inl a2)] [] h = f_Ledger_counts N a1 a2 h := (rfl)
set_option maxRecDepth 1000000 in
theorem chk_Ledger_counts : chkT 3 false prog_5_method_5_code T_Ledger_counts = true := by decide +kernel
theorem mc_Ledger_counts : mC 21 = prog_5_method_5_code := by rfl
theorem mx_Ledger_counts : mL 21 = 3 ∧ mR 21 = some .boolean ∧ mK 21 = 1 ∧ (mN 21).cls = cN 3 := by decide +kernel
theorem hD_Ledger_counts (N : Nat) {r : Int32 × MH} : ∀ n pc lv st h, D_Ledger_counts N n pc lv st h = some r → ∃ lv', (∀ q ∈ lv', q ∈ lv) ∧ seg (C_Ledger_counts N) 3 1 rI T_Ledger_counts [0] (fun q lv st h => match Nat.ble (pc + 1) q with
    | true => D_Ledger_counts N n q lv st h
    | false => none) 400 true pc lv' st h = some r := by
  intro n pc lv st h hf
  unfold D_Ledger_counts at hf
  split at hf
  · rename_i hb
    have hb := Nat.eq_of_beq_eq_true hb
    subst hb
    split at hf
    · rename_i y0 y1 e0 e1 e2
      exact ⟨_, (sub_cons e0 (sub_cons e1 (sub_cons e2 sub_nil))), (E_Ledger_counts_0 N n _ _ h).trans hf⟩
    · cases hf
  · skip
    cases hf
theorem hM_Ledger_counts (N : Nat) {r : Int32 × MH} : ∀ n pc lv st h, D_Ledger_counts N n pc lv st h = some r → pc < 29 := by
  intro n pc lv st h hf
  unfold D_Ledger_counts at hf
  split at hf
  · rename_i hb
    rw [Nat.eq_of_beq_eq_true hb]
    decide
  · skip
    cases hf
theorem s_Ledger_counts {l : Launch} {E : EV} {N : Nat} {as : List MV} {h : MH} {r : Int32 × MH} (hf : w_Ledger_counts (f_Ledger_counts N) as h = some r) : SndM l E false 0 21 as h (some (.inl r.1)) r.2 := by
  unfold w_Ledger_counts at hf
  split at hf
  · obtain ⟨m1, m2, m3, m4⟩ := mx_Ledger_counts
    refine snd_of (C := C_Ledger_counts N) (own := 3) (rz := 1) (lim := 115) rI_eq m2 m4 pl_21 (TB_in _ cw_21 rfl) ⟨(fun _ => ⟨_, _, _, _, _, _, rfl, rfl, by rw [m4]; rfl⟩), (fun z => by rw [m3] at z; cases z)⟩ (fun z => by cases z) KDL_take rfl rfl (fun z => by cases z) (fun z => by cases z) (fun _ => rfl) (by rw [m1]; exact Nat.le_of_ble_eq_true rfl)
      (fun _ _ _ _ z => by cases z)
      (fun _ _ _ _ z => by cases z)
      (fun _ _ _ _ z => by cases z)
      (fun _ _ _ _ z => by cases z)
      (fun p e R s m args below meth c Q n0 F hret => ?_)
    rw [m1] at F hret ⊢
    rw [mc_Ledger_counts] at F hret
    exact cuts_s (K := 400) (M := 29) (D := D_Ledger_counts N) (B := fun _ _ _ _ _ => none) F hret (chkT_ok chk_Ledger_counts) (hM_Ledger_counts N) (fun _ _ _ _ _ z => by cases z) (hD_Ledger_counts N) N 0 _ _ _ hf
  · cases hf
def T_Ledger_gather : List (List (Option RW)) := [
  [some (.iconst 0, 1, [], 0, 0), some (.istore_n 2, 1, [2], 0, 0), some (.iload_n 2, 1, [2], 0, 0), some (.bipush 20, 2, [], 20, 0), none, some (.if_icmp .ge 16, 3, [21], 0, 0), none, none, some (.aload_n 0, 1, [0], 0, 0), some (.getfield 49, 3, [3, 12, 2, 4, 20, 9], 0, 0), none, none, some (.iload_n 2, 1, [2], 0, 0), some (.iconst 0, 1, [], 0, 0), some (.bastore, 1, [], 0, 0), some (.iinc 2 1, 3, [2], 1, 0), none, none, some (.goto (-16), 3, [2], 0, 0), none, none, some (.iconst 0, 1, [], 0, 0), some (.istore_n 2, 1, [2], 0, 0), some (.iload_n 2, 1, [2], 0, 0), some (.aload_n 0, 1, [0], 0, 0), some (.getfield 27, 3, [3, 5, 0], 0, 0), none, none, some (.if_icmp .ge 56, 3, [84], 0, 0), none, none, some (.aload_n 0, 1, [0], 0, 0)],
  [some (.iload_n 2, 1, [2], 0, 0), some (.iload_n 1, 1, [1], 0, 0), some (.invokevirtual 59, 3, [0, 21, 3, 0], 0, 0), none, none, some (.ifCond .eq 41, 3, [78], 0, 0), none, none, some (.aload_n 0, 1, [0], 0, 0), some (.getfield 15, 3, [3, 1, 2, 1, 160, 2], 0, 0), none, none, some (.iload_n 2, 1, [2], 0, 0), some (.iaload, 1, [], 0, 0), some (.istore_n 3, 1, [3], 0, 0), some (.aload_n 0, 1, [0], 0, 0), some (.getfield 49, 3, [3, 12, 2, 4, 20, 9], 0, 0), none, none, some (.iload_n 3, 1, [3], 0, 0), some (.iconst 1, 1, [], 1, 0), some (.bastore, 1, [], 0, 0), some (.aload_n 0, 1, [0], 0, 0), some (.getfield 53, 3, [3, 13, 2, 1, 20, 10], 0, 0), none, none, some (.iload_n 3, 1, [3], 0, 0), some (.aload_n 0, 1, [0], 0, 0), some (.getfield 18, 3, [3, 2, 2, 1, 160, 3], 0, 0), none, none, some (.iload_n 2, 1, [2], 0, 0)],
  [some (.iaload, 1, [], 0, 0), some (.iastore, 1, [], 0, 0), some (.aload_n 0, 1, [0], 0, 0), some (.getfield 56, 3, [3, 14, 2, 1, 20, 11], 0, 0), none, none, some (.iload_n 3, 1, [3], 0, 0), some (.aload_n 0, 1, [0], 0, 0), some (.getfield 21, 3, [3, 3, 2, 1, 160, 4], 0, 0), none, none, some (.iload_n 2, 1, [2], 0, 0), some (.iaload, 1, [], 0, 0), some (.iastore, 1, [], 0, 0), some (.iinc 2 1, 3, [2], 1, 0), none, none, some (.goto (-58), 3, [23], 0, 0), none, none, some (.iconst 0, 1, [], 0, 0), some (.istore_n 2, 1, [2], 0, 0), some (.iload_n 2, 1, [2], 0, 0), some (.aload_n 0, 1, [0], 0, 0), some (.getfield 40, 3, [3, 9, 0], 0, 0), none, none, some (.if_icmp .ge 53, 3, [144], 0, 0), none, none, some (.aload_n 0, 1, [0], 0, 0), some (.getfield 34, 3, [3, 7, 2, 1, 20, 7], 0, 0)],
  [none, none, some (.iload_n 2, 1, [2], 0, 0), some (.iaload, 1, [], 0, 0), some (.istore_n 3, 1, [3], 0, 0), some (.iload_n 3, 1, [3], 0, 0), some (.bipush 20, 2, [], 20, 0), none, some (.if_icmp .ge 34, 3, [138], 0, 0), none, none, some (.aload_n 0, 1, [0], 0, 0), some (.getfield 31, 3, [3, 6, 2, 1, 20, 6], 0, 0), none, none, some (.iload_n 2, 1, [2], 0, 0), some (.iaload, 1, [], 0, 0), some (.iload_n 1, 1, [1], 0, 0), some (.if_icmp .ne 24, 3, [138], 0, 0), none, none, some (.aload_n 0, 1, [0], 0, 0), some (.getfield 53, 3, [3, 13, 2, 1, 20, 10], 0, 0), none, none, some (.iload_n 3, 1, [3], 0, 0), some (.dup2, 1, [], 0, 0), some (.iaload, 1, [], 0, 0), some (.aload_n 0, 1, [0], 0, 0), some (.getfield 37, 3, [3, 8, 2, 1, 20, 8], 0, 0), none, none],
  [some (.iload_n 2, 1, [2], 0, 0), some (.iaload, 1, [], 0, 0), some (.isub, 1, [], 0, 0), some (.iastore, 1, [], 0, 0), some (.iinc 3 1, 3, [3], 1, 0), none, none, some (.goto (-34), 3, [101], 0, 0), none, none, some (.iinc 2 1, 3, [2], 1, 0), none, none, some (.goto (-55), 3, [86], 0, 0), none, none, some (.return_, 1, [], 0, 0)]]
def F_Ledger_gather_101 (N : Nat) (bk : (Int32 → Int32 → MH → Option (MH)) × (Int32 → Int32 → MH → Option (MH)) × (Int32 → Int32 → MH → Option (MH)) × (Int32 → Int32 → Int32 → MH → Option (MH))) (a1 : Int32) (a2 : Int32) (a3 : Int32) (h : MH) : Option (MH) :=
  if 20 ≤ a3 then
  (let v11 : Int32 := a2 + 1
  (bk.2.2.1) a1 v11 h)
  else
  (if inB a2 20 = true then
  (if (gI h 22 (iN a2)) = a1 then
  (if inB a3 20 = true then
  (if inB a2 20 = true then
  (if inB a3 20 = true then
  (let h12 : MH := sI h 26 (iN a3) ((gI h 26 (iN a3)) - (gI h 24 (iN a2)))
  let v13 : Int32 := a3 + 1
  (bk.2.2.2) a1 a2 v13 h12)
  else none)
  else none)
  else none)
  else
  (let v14 : Int32 := a2 + 1
  (bk.2.2.1) a1 v14 h))
  else none)
def F_Ledger_gather_86 (N : Nat) (bk : (Int32 → Int32 → MH → Option (MH)) × (Int32 → Int32 → MH → Option (MH)) × (Int32 → Int32 → MH → Option (MH)) × (Int32 → Int32 → Int32 → MH → Option (MH))) (a1 : Int32) (a2 : Int32) (h : MH) : Option (MH) :=
  if (gI h 16 9) ≤ a2 then
  (some h)
  else
  (if inB a2 20 = true then
  (let v10 : Int32 := gI h 23 (iN a2)
  F_Ledger_gather_101 N bk a1 a2 v10 h)
  else none)
def F_Ledger_gather_23 (N : Nat) (bk : (Int32 → Int32 → MH → Option (MH)) × (Int32 → Int32 → MH → Option (MH)) × (Int32 → Int32 → MH → Option (MH)) × (Int32 → Int32 → Int32 → MH → Option (MH))) (a1 : Int32) (a2 : Int32) (h : MH) : Option (MH) :=
  if (gI h 16 5) ≤ a2 then
  (F_Ledger_gather_86 N bk a1 0 h)
  else
  ((f_Ledger_counts N a2 a1 h).bind (fun x3 =>
  if x3.1 = 0 then
  (let v4 : Int32 := a2 + 1
  (bk.2.1) a1 v4 x3.2)
  else
  (if inB a2 160 = true then
  (let v5 : Int32 := gI x3.2 18 (iN a2)
  if inB v5 20 = true then
  (let h6 : MH := sI x3.2 25 (iN v5) ((1 : Int32) &&& 1)
  if inB a2 160 = true then
  (if inB v5 20 = true then
  (let h7 : MH := sI h6 26 (iN v5) (gI h6 19 (iN a2))
  if inB a2 160 = true then
  (if inB v5 20 = true then
  (let h8 : MH := sI h7 27 (iN v5) (gI h7 20 (iN a2))
  let v9 : Int32 := a2 + 1
  (bk.2.1) a1 v9 h8)
  else none)
  else none)
  else none)
  else none)
  else none)
  else none)))
def F_Ledger_gather_2 (N : Nat) (bk : (Int32 → Int32 → MH → Option (MH)) × (Int32 → Int32 → MH → Option (MH)) × (Int32 → Int32 → MH → Option (MH)) × (Int32 → Int32 → Int32 → MH → Option (MH))) (a1 : Int32) (a2 : Int32) (h : MH) : Option (MH) :=
  if 20 ≤ a2 then
  (F_Ledger_gather_23 N bk a1 0 h)
  else
  (if inB a2 20 = true then
  (let h1 : MH := sI h 25 (iN a2) ((0 : Int32) &&& 1)
  let v2 : Int32 := a2 + 1
  (bk.1) a1 v2 h1)
  else none)
def F_Ledger_gather_0 (N : Nat) (bk : (Int32 → Int32 → MH → Option (MH)) × (Int32 → Int32 → MH → Option (MH)) × (Int32 → Int32 → MH → Option (MH)) × (Int32 → Int32 → Int32 → MH → Option (MH))) (a1 : Int32) (h : MH) : Option (MH) :=
  F_Ledger_gather_2 N bk a1 0 h
def L_Ledger_gather (N : Nat) : Nat → ((Int32 → Int32 → MH → Option (MH)) × (Int32 → Int32 → MH → Option (MH)) × (Int32 → Int32 → MH → Option (MH)) × (Int32 → Int32 → Int32 → MH → Option (MH)))
  | 0 => (fun _ _ _ => none, fun _ _ _ => none, fun _ _ _ => none, fun _ _ _ _ => none)
  | n + 1 => (F_Ledger_gather_2 N (L_Ledger_gather N n), F_Ledger_gather_23 N (L_Ledger_gather N n), F_Ledger_gather_86 N (L_Ledger_gather N n), F_Ledger_gather_101 N (L_Ledger_gather N n))
def f_Ledger_gather (N : Nat) (a1 : Int32) (h : MH) : Option (MH) := F_Ledger_gather_0 N (L_Ledger_gather N N) a1 h
def C_Ledger_gather (N : Nat) : MC := (KDL, false, (fun _ => 0), jsB, (fun j => match Nat.beq j 21 with
    | true => w_Ledger_counts (f_Ledger_counts N)
    | false => fun _ _ => none), (fun _ _ _ => none), (fun _ _ _ => none), (fun _ _ _ => none))
def D_Ledger_gather (N : Nat) (n pc : Nat) (lv : ML) (st : List MV) (h : MH) : Option (MH) :=
  match Nat.beq pc 0 with
  | true => (match lk lv 0, lk lv 1, st with
    | some (.inr (.inr (0, 3, 16))), some (.inl a1), [] => F_Ledger_gather_0 N (L_Ledger_gather N n) a1 h
    | _, _, _ => none)
  | false => match Nat.beq pc 2 with
  | true => (match lk lv 0, lk lv 1, lk lv 2, st with
    | some (.inr (.inr (0, 3, 16))), some (.inl a1), some (.inl a2), [] => F_Ledger_gather_2 N (L_Ledger_gather N n) a1 a2 h
    | _, _, _, _ => none)
  | false => match Nat.beq pc 23 with
  | true => (match lk lv 0, lk lv 1, lk lv 2, st with
    | some (.inr (.inr (0, 3, 16))), some (.inl a1), some (.inl a2), [] => F_Ledger_gather_23 N (L_Ledger_gather N n) a1 a2 h
    | _, _, _, _ => none)
  | false => match Nat.beq pc 86 with
  | true => (match lk lv 0, lk lv 1, lk lv 2, st with
    | some (.inr (.inr (0, 3, 16))), some (.inl a1), some (.inl a2), [] => F_Ledger_gather_86 N (L_Ledger_gather N n) a1 a2 h
    | _, _, _, _ => none)
  | false => match Nat.beq pc 101 with
  | true => (match lk lv 0, lk lv 1, lk lv 2, lk lv 3, st with
    | some (.inr (.inr (0, 3, 16))), some (.inl a1), some (.inl a2), some (.inl a3), [] => F_Ledger_gather_101 N (L_Ledger_gather N n) a1 a2 a3 h
    | _, _, _, _, _ => none)
  | false => none
def B_Ledger_gather (N : Nat) (n pc : Nat) (lv : ML) (st : List MV) (h : MH) : Option (MH) :=
  match Nat.beq pc 2 with
  | true => (match lk lv 0, lk lv 1, lk lv 2, st with
    | some (.inr (.inr (0, 3, 16))), some (.inl a1), some (.inl a2), [] => ((L_Ledger_gather N n).1) a1 a2 h
    | _, _, _, _ => none)
  | false => match Nat.beq pc 23 with
  | true => (match lk lv 0, lk lv 1, lk lv 2, st with
    | some (.inr (.inr (0, 3, 16))), some (.inl a1), some (.inl a2), [] => ((L_Ledger_gather N n).2.1) a1 a2 h
    | _, _, _, _ => none)
  | false => match Nat.beq pc 86 with
  | true => (match lk lv 0, lk lv 1, lk lv 2, st with
    | some (.inr (.inr (0, 3, 16))), some (.inl a1), some (.inl a2), [] => ((L_Ledger_gather N n).2.2.1) a1 a2 h
    | _, _, _, _ => none)
  | false => match Nat.beq pc 101 with
  | true => (match lk lv 0, lk lv 1, lk lv 2, lk lv 3, st with
    | some (.inr (.inr (0, 3, 16))), some (.inl a1), some (.inl a2), some (.inl a3), [] => ((L_Ledger_gather N n).2.2.2) a1 a2 a3 h
    | _, _, _, _, _ => none)
  | false => none
set_option maxRecDepth 1000000 in
theorem E_Ledger_gather_0 (N : Nat) (n : Nat) (a1 : Int32) (h : MH) : seg (C_Ledger_gather N) 4 0 rV T_Ledger_gather [0, 2, 23, 86, 101] (fun q lv st h => match Nat.ble 1 q with
    | true => D_Ledger_gather N n q lv st h
    | false => B_Ledger_gather N n q lv st h) 400 true 0 [(0, .inr (.inr (0, 3, 16))), (1, .inl a1)] [] h = F_Ledger_gather_0 N (L_Ledger_gather N n) a1 h := (rfl)
set_option maxRecDepth 1000000 in
theorem E_Ledger_gather_2 (N : Nat) (n : Nat) (a1 : Int32) (a2 : Int32) (h : MH) : seg (C_Ledger_gather N) 4 0 rV T_Ledger_gather [0, 2, 23, 86, 101] (fun q lv st h => match Nat.ble 3 q with
    | true => D_Ledger_gather N n q lv st h
    | false => B_Ledger_gather N n q lv st h) 400 true 2 [(0, .inr (.inr (0, 3, 16))), (1, .inl a1), (2, .inl a2)] [] h = F_Ledger_gather_2 N (L_Ledger_gather N n) a1 a2 h := (rfl)
set_option maxRecDepth 1000000 in
theorem E_Ledger_gather_23 (N : Nat) (n : Nat) (a1 : Int32) (a2 : Int32) (h : MH) : seg (C_Ledger_gather N) 4 0 rV T_Ledger_gather [0, 2, 23, 86, 101] (fun q lv st h => match Nat.ble 24 q with
    | true => D_Ledger_gather N n q lv st h
    | false => B_Ledger_gather N n q lv st h) 400 true 23 [(0, .inr (.inr (0, 3, 16))), (1, .inl a1), (2, .inl a2)] [] h = F_Ledger_gather_23 N (L_Ledger_gather N n) a1 a2 h := (rfl)
set_option maxRecDepth 1000000 in
theorem E_Ledger_gather_86 (N : Nat) (n : Nat) (a1 : Int32) (a2 : Int32) (h : MH) : seg (C_Ledger_gather N) 4 0 rV T_Ledger_gather [0, 2, 23, 86, 101] (fun q lv st h => match Nat.ble 87 q with
    | true => D_Ledger_gather N n q lv st h
    | false => B_Ledger_gather N n q lv st h) 400 true 86 [(0, .inr (.inr (0, 3, 16))), (1, .inl a1), (2, .inl a2)] [] h = F_Ledger_gather_86 N (L_Ledger_gather N n) a1 a2 h := (rfl)
set_option maxRecDepth 1000000 in
theorem E_Ledger_gather_101 (N : Nat) (n : Nat) (a1 : Int32) (a2 : Int32) (a3 : Int32) (h : MH) : seg (C_Ledger_gather N) 4 0 rV T_Ledger_gather [0, 2, 23, 86, 101] (fun q lv st h => match Nat.ble 102 q with
    | true => D_Ledger_gather N n q lv st h
    | false => B_Ledger_gather N n q lv st h) 400 true 101 [(0, .inr (.inr (0, 3, 16))), (1, .inl a1), (2, .inl a2), (3, .inl a3)] [] h = F_Ledger_gather_101 N (L_Ledger_gather N n) a1 a2 a3 h := (rfl)
set_option maxRecDepth 1000000 in
theorem chk_Ledger_gather : chkT 3 false prog_5_method_6_code T_Ledger_gather = true := by decide +kernel
theorem mc_Ledger_gather : mC 22 = prog_5_method_6_code := by rfl
theorem mx_Ledger_gather : mL 22 = 4 ∧ mR 22 = none ∧ mK 22 = 1 ∧ (mN 22).cls = cN 3 := by decide +kernel
theorem hD_Ledger_gather (N : Nat) {r : MH} : ∀ n pc lv st h, D_Ledger_gather N n pc lv st h = some r → ∃ lv', (∀ q ∈ lv', q ∈ lv) ∧ seg (C_Ledger_gather N) 4 0 rV T_Ledger_gather [0, 2, 23, 86, 101] (fun q lv st h => match Nat.ble (pc + 1) q with
    | true => D_Ledger_gather N n q lv st h
    | false => B_Ledger_gather N n q lv st h) 400 true pc lv' st h = some r := by
  intro n pc lv st h hf
  unfold D_Ledger_gather at hf
  split at hf
  · rename_i hb
    have hb := Nat.eq_of_beq_eq_true hb
    subst hb
    split at hf
    · rename_i y0 e0 e1
      exact ⟨_, (sub_cons e0 (sub_cons e1 sub_nil)), (E_Ledger_gather_0 N n _ h).trans hf⟩
    · cases hf
  · skip
    split at hf
    · rename_i hb
      have hb := Nat.eq_of_beq_eq_true hb
      subst hb
      split at hf
      · rename_i y0 y1 e0 e1 e2
        exact ⟨_, (sub_cons e0 (sub_cons e1 (sub_cons e2 sub_nil))), (E_Ledger_gather_2 N n _ _ h).trans hf⟩
      · cases hf
    · skip
      split at hf
      · rename_i hb
        have hb := Nat.eq_of_beq_eq_true hb
        subst hb
        split at hf
        · rename_i y0 y1 e0 e1 e2
          exact ⟨_, (sub_cons e0 (sub_cons e1 (sub_cons e2 sub_nil))), (E_Ledger_gather_23 N n _ _ h).trans hf⟩
        · cases hf
      · skip
        split at hf
        · rename_i hb
          have hb := Nat.eq_of_beq_eq_true hb
          subst hb
          split at hf
          · rename_i y0 y1 e0 e1 e2
            exact ⟨_, (sub_cons e0 (sub_cons e1 (sub_cons e2 sub_nil))), (E_Ledger_gather_86 N n _ _ h).trans hf⟩
          · cases hf
        · skip
          split at hf
          · rename_i hb
            have hb := Nat.eq_of_beq_eq_true hb
            subst hb
            split at hf
            · rename_i y0 y1 y2 e0 e1 e2 e3
              exact ⟨_, (sub_cons e0 (sub_cons e1 (sub_cons e2 (sub_cons e3 sub_nil)))), (E_Ledger_gather_101 N n _ _ _ h).trans hf⟩
            · cases hf
          · skip
            cases hf
theorem hM_Ledger_gather (N : Nat) {r : MH} : ∀ n pc lv st h, D_Ledger_gather N n pc lv st h = some r → pc < 145 := by
  intro n pc lv st h hf
  unfold D_Ledger_gather at hf
  split at hf
  · rename_i hb
    rw [Nat.eq_of_beq_eq_true hb]
    decide
  · skip
    split at hf
    · rename_i hb
      rw [Nat.eq_of_beq_eq_true hb]
      decide
    · skip
      split at hf
      · rename_i hb
        rw [Nat.eq_of_beq_eq_true hb]
        decide
      · skip
        split at hf
        · rename_i hb
          rw [Nat.eq_of_beq_eq_true hb]
          decide
        · skip
          split at hf
          · rename_i hb
            rw [Nat.eq_of_beq_eq_true hb]
            decide
          · skip
            cases hf
theorem hB_Ledger_gather (N : Nat) {r : MH} : ∀ n pc lv st h, B_Ledger_gather N n pc lv st h = some r → ∃ k, n = k + 1 ∧ D_Ledger_gather N k pc lv st h = some r := by
  intro n pc lv st h hf
  unfold B_Ledger_gather at hf
  split at hf
  · rename_i hb
    have hb := Nat.eq_of_beq_eq_true hb
    subst hb
    cases n with
    | zero =>
      split at hf
      · cases hf
      · cases hf
    | succ k =>
      refine ⟨k, rfl, ?_⟩
      exact hf
  · skip
    split at hf
    · rename_i hb
      have hb := Nat.eq_of_beq_eq_true hb
      subst hb
      cases n with
      | zero =>
        split at hf
        · cases hf
        · cases hf
      | succ k =>
        refine ⟨k, rfl, ?_⟩
        exact hf
    · skip
      split at hf
      · rename_i hb
        have hb := Nat.eq_of_beq_eq_true hb
        subst hb
        cases n with
        | zero =>
          split at hf
          · cases hf
          · cases hf
        | succ k =>
          refine ⟨k, rfl, ?_⟩
          exact hf
      · skip
        split at hf
        · rename_i hb
          have hb := Nat.eq_of_beq_eq_true hb
          subst hb
          cases n with
          | zero =>
            split at hf
            · cases hf
            · cases hf
          | succ k =>
            refine ⟨k, rfl, ?_⟩
            exact hf
        · skip
          cases hf
theorem s_Ledger_gather {l : Launch} {E : EV} {N : Nat} {as : List MV} {h : MH} {r : MH} (hf : w_Ledger_gather (f_Ledger_gather N) as h = some r) : SndM l E false 1 22 as h none r := by
  unfold w_Ledger_gather at hf
  split at hf
  · obtain ⟨m1, m2, m3, m4⟩ := mx_Ledger_gather
    refine snd_of (C := C_Ledger_gather N) (own := 3) (rz := 0) (lim := 115) rV_eq m2 m4 pl_22 (TB_in _ cw_22 rfl) ⟨(fun _ => ⟨_, _, _, _, _, _, rfl, rfl, by rw [m4]; rfl⟩), (fun z => by rw [m3] at z; cases z)⟩ (fun z => by cases z) KDL_take rfl rfl (fun z => by cases z) (fun z => by cases z) (fun _ => rfl) (by rw [m1]; exact Nat.le_of_ble_eq_true rfl)
      (fun j as h x z => by
      dsimp only [C_Ledger_gather] at z
      cases hb : Nat.beq j 21 with
      | true =>
        have hb := Nat.eq_of_beq_eq_true hb
        subst hb
        exact ⟨0, by decide, (fun z => by cases z), s_Ledger_counts z⟩
      | false =>
        rw [hb] at z
        dsimp only at z
        cases z)
      (fun _ _ _ _ z => by cases z)
      (fun _ _ _ _ z => by cases z)
      (fun _ _ _ _ z => by cases z)
      (fun p e R s m args below meth c Q n0 F hret => ?_)
    rw [m1] at F hret ⊢
    rw [mc_Ledger_gather] at F hret
    exact cuts_s (K := 400) (M := 145) (D := D_Ledger_gather N) (B := B_Ledger_gather N) F hret (chkT_ok chk_Ledger_gather) (hM_Ledger_gather N) (hB_Ledger_gather N) (hD_Ledger_gather N) N 0 _ _ _ hf
  · cases hf
def T_Asked_prepare : List (List (Option RW)) := [
  [some (.aload_n 0, 1, [0], 0, 0), some (.aload_n 1, 1, [1], 0, 0), some (.getfield 46, 3, [2, 0, 0], 0, 0), none, none, some (.putfield 9, 3, [0, 0, 0], 0, 0), none, none, some (.aload_n 0, 1, [0], 0, 0), some (.aload_n 1, 1, [1], 0, 0), some (.getfield 49, 3, [2, 1, 0], 0, 0), none, none, some (.putfield 15, 3, [0, 1, 0], 0, 0), none, none, some (.aload_n 0, 1, [0], 0, 0), some (.iconst 0, 1, [], 0, 0), some (.putfield 18, 3, [0, 2, 0], 0, 0), none, none, some (.iconst 0, 1, [], 0, 0), some (.istore 5, 2, [5], 0, 0), none, some (.iload 5, 2, [5], 0, 0), none, some (.aload_n 0, 1, [0], 0, 0), some (.getfield 15, 3, [0, 1, 0], 0, 0), none, none, some (.if_icmp .ge 103, 3, [133], 0, 0), none],
  [none, some (.aload_n 2, 1, [2], 0, 0), some (.iload 5, 2, [5], 0, 0), none, some (.invokevirtual 50, 3, [1, 22, 2, 3], 0, 0), none, none, some (.aload_n 2, 1, [2], 0, 0), some (.getfield 56, 3, [3, 12, 2, 4, 20, 9], 0, 0), none, none, some (.iload_n 3, 1, [3], 0, 0), some (.baload, 1, [], 0, 0), some (.ifCond .eq 82, 3, [127], 0, 0), none, none, some (.aload_n 2, 1, [2], 0, 0), some (.getfield 56, 3, [3, 12, 2, 4, 20, 9], 0, 0), none, none, some (.iload 4, 2, [4], 0, 0), none, some (.baload, 1, [], 0, 0), some (.ifCond .eq 72, 3, [127], 0, 0), none, none, some (.aload_n 2, 1, [2], 0, 0), some (.getfield 60, 3, [3, 13, 2, 1, 20, 10], 0, 0), none, none, some (.iload 4, 2, [4], 0, 0), none],
  [some (.iaload, 1, [], 0, 0), some (.aload_n 2, 1, [2], 0, 0), some (.getfield 60, 3, [3, 13, 2, 1, 20, 10], 0, 0), none, none, some (.iload_n 3, 1, [3], 0, 0), some (.iaload, 1, [], 0, 0), some (.isub, 1, [], 0, 0), some (.istore 6, 2, [6], 0, 0), none, some (.aload_n 2, 1, [2], 0, 0), some (.getfield 63, 3, [3, 14, 2, 1, 20, 11], 0, 0), none, none, some (.iload_n 3, 1, [3], 0, 0), some (.iaload, 1, [], 0, 0), some (.aload_n 2, 1, [2], 0, 0), some (.getfield 63, 3, [3, 14, 2, 1, 20, 11], 0, 0), none, none, some (.iload 4, 2, [4], 0, 0), none, some (.iaload, 1, [], 0, 0), some (.iadd, 1, [], 0, 0), some (.istore 7, 2, [7], 0, 0), none, some (.aload_n 0, 1, [0], 0, 0), some (.dup, 1, [], 0, 0), some (.getfield 18, 3, [0, 2, 0], 0, 0), none, none, some (.iconst 1, 1, [], 1, 0)],
  [some (.iload 5, 2, [5], 0, 0), none, some (.ishl, 1, [], 0, 0), some (.ior, 1, [], 0, 0), some (.putfield 18, 3, [0, 2, 0], 0, 0), none, none, some (.aload_n 0, 1, [0], 0, 0), some (.getfield 28, 3, [0, 5, 2, 1, 8, 3], 0, 0), none, none, some (.iload 5, 2, [5], 0, 0), none, some (.iload 6, 2, [6], 0, 0), none, some (.iload 7, 2, [7], 0, 0), none, some (.isub, 1, [], 0, 0), some (.iastore, 1, [], 0, 0), some (.aload_n 0, 1, [0], 0, 0), some (.getfield 31, 3, [0, 6, 2, 1, 8, 4], 0, 0), none, none, some (.iload 5, 2, [5], 0, 0), none, some (.iload 6, 2, [6], 0, 0), none, some (.iload 7, 2, [7], 0, 0), none, some (.iadd, 1, [], 0, 0), some (.iastore, 1, [], 0, 0), some (.iinc 5 1, 3, [5], 1, 0)],
  [none, none, some (.goto (-106), 3, [24], 0, 0), none, none, some (.aload_n 1, 1, [1], 0, 0), some (.getfield 66, 3, [2, 2, 2, 1, 48, 1], 0, 0), none, none, some (.iconst 0, 1, [], 0, 0), some (.aload_n 0, 1, [0], 0, 0), some (.getfield 21, 3, [0, 3, 2, 1, 48, 1], 0, 0), none, none, some (.iconst 0, 1, [], 0, 0), some (.aload_n 0, 1, [0], 0, 0), some (.getfield 21, 3, [0, 3, 2, 1, 48, 1], 0, 0), none, none, some (.arraylength, 1, [], 0, 0), some (.invokestatic 67, 3, [9], 0, 0), none, none, some (.aload_n 1, 1, [1], 0, 0), some (.getfield 73, 3, [2, 3, 2, 1, 6, 2], 0, 0), none, none, some (.iconst 0, 1, [], 0, 0), some (.aload_n 0, 1, [0], 0, 0), some (.getfield 25, 3, [0, 4, 2, 1, 6, 2], 0, 0), none, none],
  [some (.iconst 0, 1, [], 0, 0), some (.aload_n 0, 1, [0], 0, 0), some (.getfield 25, 3, [0, 4, 2, 1, 6, 2], 0, 0), none, none, some (.arraylength, 1, [], 0, 0), some (.invokestatic 67, 3, [9], 0, 0), none, none, some (.aload_n 0, 1, [0], 0, 0), some (.invokevirtual 74, 3, [0, 2, 1, 3], 0, 0), none, none, some (.return_, 1, [], 0, 0)]]
def F_Asked_prepare_24 (N : Nat) (bk : (Nat → Int32 → Int32 → Int32 → MH → Option (MH))) (r1 : Nat) (a3 : Int32) (a4 : Int32) (a5 : Int32) (h : MH) : Option (MH) :=
  if (gI h 33 1) ≤ a5 then
  (if 0 ≤ (nI 48) ∧ 0 ≤ (0 : Int32) ∧ 0 ≤ (0 : Int32) ∧ iN (0 : Int32) + iN (nI 48) ≤ 48 ∧ iN (0 : Int32) + iN (nI 48) ≤ 48 then
  (let h4 : MH := cI h (r1 + 1) 34 (iN (0 : Int32)) (iN (0 : Int32)) (iN (nI 48))
  if 0 ≤ (nI 6) ∧ 0 ≤ (0 : Int32) ∧ 0 ≤ (0 : Int32) ∧ iN (0 : Int32) + iN (nI 6) ≤ 6 ∧ iN (0 : Int32) + iN (nI 6) ≤ 6 then
  (let h5 : MH := cI h4 (r1 + 2) 35 (iN (0 : Int32)) (iN (0 : Int32)) (iN (nI 6))
  (f_Asked_boundRests N h5).bind (fun x6 =>
  some x6))
  else none)
  else none)
  else
  ((f_Ledger_gather N a5 h).bind (fun x7 =>
  if inB a3 20 = true then
  (if (gI x7 25 (iN a3)) = 0 then
  (let v8 : Int32 := a5 + 1
  bk r1 a3 a4 v8 x7)
  else
  (if inB a4 20 = true then
  (if (gI x7 25 (iN a4)) = 0 then
  (let v9 : Int32 := a5 + 1
  bk r1 a3 a4 v9 x7)
  else
  (if inB a4 20 = true then
  (if inB a3 20 = true then
  (let v10 : Int32 := (gI x7 26 (iN a4)) - (gI x7 26 (iN a3))
  if inB a3 20 = true then
  (if inB a4 20 = true then
  (let v11 : Int32 := (gI x7 27 (iN a3)) + (gI x7 27 (iN a4))
  let h12 : MH := sI x7 33 2 ((gI x7 33 2) ||| ((1 : Int32) <<< (a5 &&& 31)))
  if inB a5 8 = true then
  (let h13 : MH := sI h12 36 (iN a5) (v10 - v11)
  if inB a5 8 = true then
  (let h14 : MH := sI h13 37 (iN a5) (v10 + v11)
  let v15 : Int32 := a5 + 1
  bk r1 a3 a4 v15 h14)
  else none)
  else none)
  else none)
  else none)
  else none)
  else none))
  else none))
  else none))
def F_Asked_prepare_0 (N : Nat) (bk : (Nat → Int32 → Int32 → Int32 → MH → Option (MH))) (r1 : Nat) (a3 : Int32) (a4 : Int32) (h : MH) : Option (MH) :=
  let h1 : MH := sI h 33 0 (gI h r1 0)
  let h2 : MH := sI h1 33 1 (gI h1 r1 1)
  let h3 : MH := sI h2 33 2 0
  F_Asked_prepare_24 N bk r1 a3 a4 0 h3
def L_Asked_prepare (N : Nat) : Nat → (Nat → Int32 → Int32 → Int32 → MH → Option (MH))
  | 0 => fun _ _ _ _ _ => none
  | n + 1 => F_Asked_prepare_24 N (L_Asked_prepare N n)
def f_Asked_prepare (N : Nat) (r1 : Nat) (a3 : Int32) (a4 : Int32) (h : MH) : Option (MH) := F_Asked_prepare_0 N (L_Asked_prepare N N) r1 a3 a4 h
def C_Asked_prepare (N : Nat) : MC := (KDL, false, (fun _ => 0), jsB, (fun _ _ _ => none), (fun _ _ _ => none), (fun _ _ _ => none), (fun j => match Nat.beq j 2 with
    | true => w_Asked_boundRests (f_Asked_boundRests N)
    | false => match Nat.beq j 22 with
    | true => w_Ledger_gather (f_Ledger_gather N)
    | false => fun _ _ => none))
def D_Asked_prepare (N : Nat) (n pc : Nat) (lv : ML) (st : List MV) (h : MH) : Option (MH) :=
  match Nat.beq pc 0 with
  | true => (match lk lv 0, lk lv 1, lk lv 2, lk lv 3, lk lv 4, st with
    | some (.inr (.inr (0, 0, 33))), some (.inr (.inr (0, 2, r1))), some (.inr (.inr (0, 3, 16))), some (.inl a3), some (.inl a4), [] => F_Asked_prepare_0 N (L_Asked_prepare N n) r1 a3 a4 h
    | _, _, _, _, _, _ => none)
  | false => match Nat.beq pc 24 with
  | true => (match lk lv 0, lk lv 1, lk lv 2, lk lv 3, lk lv 4, lk lv 5, st with
    | some (.inr (.inr (0, 0, 33))), some (.inr (.inr (0, 2, r1))), some (.inr (.inr (0, 3, 16))), some (.inl a3), some (.inl a4), some (.inl a5), [] => F_Asked_prepare_24 N (L_Asked_prepare N n) r1 a3 a4 a5 h
    | _, _, _, _, _, _, _ => none)
  | false => none
def B_Asked_prepare (N : Nat) (n pc : Nat) (lv : ML) (st : List MV) (h : MH) : Option (MH) :=
  match Nat.beq pc 24 with
  | true => (match lk lv 0, lk lv 1, lk lv 2, lk lv 3, lk lv 4, lk lv 5, st with
    | some (.inr (.inr (0, 0, 33))), some (.inr (.inr (0, 2, r1))), some (.inr (.inr (0, 3, 16))), some (.inl a3), some (.inl a4), some (.inl a5), [] => ((L_Asked_prepare N n)) r1 a3 a4 a5 h
    | _, _, _, _, _, _, _ => none)
  | false => none
set_option maxRecDepth 1000000 in
theorem E_Asked_prepare_0 (N : Nat) (n : Nat) (r1 : Nat) (a3 : Int32) (a4 : Int32) (h : MH) : seg (C_Asked_prepare N) 8 0 rV T_Asked_prepare [0, 24] (fun q lv st h => match Nat.ble 1 q with
    | true => D_Asked_prepare N n q lv st h
    | false => B_Asked_prepare N n q lv st h) 400 true 0 [(0, .inr (.inr (0, 0, 33))), (1, .inr (.inr (0, 2, r1))), (2, .inr (.inr (0, 3, 16))), (3, .inl a3), (4, .inl a4)] [] h = F_Asked_prepare_0 N (L_Asked_prepare N n) r1 a3 a4 h := (rfl)
set_option maxRecDepth 1000000 in
theorem E_Asked_prepare_24 (N : Nat) (n : Nat) (r1 : Nat) (a3 : Int32) (a4 : Int32) (a5 : Int32) (h : MH) : seg (C_Asked_prepare N) 8 0 rV T_Asked_prepare [0, 24] (fun q lv st h => match Nat.ble 25 q with
    | true => D_Asked_prepare N n q lv st h
    | false => B_Asked_prepare N n q lv st h) 400 true 24 [(0, .inr (.inr (0, 0, 33))), (1, .inr (.inr (0, 2, r1))), (2, .inr (.inr (0, 3, 16))), (3, .inl a3), (4, .inl a4), (5, .inl a5)] [] h = F_Asked_prepare_24 N (L_Asked_prepare N n) r1 a3 a4 a5 h := (rfl)
set_option maxRecDepth 1000000 in
theorem chk_Asked_prepare : chkT 0 false prog_2_method_2_code T_Asked_prepare = true := by decide +kernel
theorem mc_Asked_prepare : mC 1 = prog_2_method_2_code := by rfl
theorem mx_Asked_prepare : mL 1 = 8 ∧ mR 1 = none ∧ mK 1 = 1 ∧ (mN 1).cls = cN 0 := by decide +kernel
theorem hD_Asked_prepare (N : Nat) {r : MH} : ∀ n pc lv st h, D_Asked_prepare N n pc lv st h = some r → ∃ lv', (∀ q ∈ lv', q ∈ lv) ∧ seg (C_Asked_prepare N) 8 0 rV T_Asked_prepare [0, 24] (fun q lv st h => match Nat.ble (pc + 1) q with
    | true => D_Asked_prepare N n q lv st h
    | false => B_Asked_prepare N n q lv st h) 400 true pc lv' st h = some r := by
  intro n pc lv st h hf
  unfold D_Asked_prepare at hf
  split at hf
  · rename_i hb
    have hb := Nat.eq_of_beq_eq_true hb
    subst hb
    split at hf
    · rename_i y0 y1 y2 e0 e1 e2 e3 e4
      exact ⟨_, (sub_cons e0 (sub_cons e1 (sub_cons e2 (sub_cons e3 (sub_cons e4 sub_nil))))), (E_Asked_prepare_0 N n _ _ _ h).trans hf⟩
    · cases hf
  · skip
    split at hf
    · rename_i hb
      have hb := Nat.eq_of_beq_eq_true hb
      subst hb
      split at hf
      · rename_i y0 y1 y2 y3 e0 e1 e2 e3 e4 e5
        exact ⟨_, (sub_cons e0 (sub_cons e1 (sub_cons e2 (sub_cons e3 (sub_cons e4 (sub_cons e5 sub_nil)))))), (E_Asked_prepare_24 N n _ _ _ _ h).trans hf⟩
      · cases hf
    · skip
      cases hf
theorem hM_Asked_prepare (N : Nat) {r : MH} : ∀ n pc lv st h, D_Asked_prepare N n pc lv st h = some r → pc < 174 := by
  intro n pc lv st h hf
  unfold D_Asked_prepare at hf
  split at hf
  · rename_i hb
    rw [Nat.eq_of_beq_eq_true hb]
    decide
  · skip
    split at hf
    · rename_i hb
      rw [Nat.eq_of_beq_eq_true hb]
      decide
    · skip
      cases hf
theorem hB_Asked_prepare (N : Nat) {r : MH} : ∀ n pc lv st h, B_Asked_prepare N n pc lv st h = some r → ∃ k, n = k + 1 ∧ D_Asked_prepare N k pc lv st h = some r := by
  intro n pc lv st h hf
  unfold B_Asked_prepare at hf
  split at hf
  · rename_i hb
    have hb := Nat.eq_of_beq_eq_true hb
    subst hb
    cases n with
    | zero =>
      split at hf
      · cases hf
      · cases hf
    | succ k =>
      refine ⟨k, rfl, ?_⟩
      exact hf
  · skip
    cases hf
theorem s_Asked_prepare {l : Launch} {E : EV} {N : Nat} {as : List MV} {h : MH} {r : MH} (hf : w_Asked_prepare (f_Asked_prepare N) as h = some r) : SndM l E false 2 1 as h none r := by
  unfold w_Asked_prepare at hf
  split at hf
  · obtain ⟨m1, m2, m3, m4⟩ := mx_Asked_prepare
    refine snd_of (C := C_Asked_prepare N) (own := 0) (rz := 0) (lim := 115) rV_eq m2 m4 pl_1 (TB_in _ cw_1 rfl) ⟨(fun _ => ⟨_, _, _, _, _, _, rfl, rfl, by rw [m4]; rfl⟩), (fun z => by rw [m3] at z; cases z)⟩ (fun z => by cases z) KDL_take rfl rfl (fun z => by cases z) (fun z => by cases z) (fun _ => rfl) (by rw [m1]; exact Nat.le_of_ble_eq_true rfl)
      (fun _ _ _ _ z => by cases z)
      (fun _ _ _ _ z => by cases z)
      (fun _ _ _ _ z => by cases z)
      (fun j as h x z => by
      dsimp only [C_Asked_prepare] at z
      cases hb : Nat.beq j 2 with
      | true =>
        have hb := Nat.eq_of_beq_eq_true hb
        subst hb
        exact ⟨1, by decide, (fun z => by cases z), s_Asked_boundRests z⟩
      | false =>
        rw [hb] at z
        dsimp only at z
        cases hb : Nat.beq j 22 with
        | true =>
          have hb := Nat.eq_of_beq_eq_true hb
          subst hb
          exact ⟨1, by decide, (fun z => by cases z), s_Ledger_gather z⟩
        | false =>
          rw [hb] at z
          dsimp only at z
          cases z)
      (fun p e R s m args below meth c Q n0 F hret => ?_)
    rw [m1] at F hret ⊢
    rw [mc_Asked_prepare] at F hret
    exact cuts_s (K := 400) (M := 174) (D := D_Asked_prepare N) (B := B_Asked_prepare N) F hret (chkT_ok chk_Asked_prepare) (hM_Asked_prepare N) (hB_Asked_prepare N) (hD_Asked_prepare N) N 0 _ _ _ hf
  · cases hf
def T_Asked_put : List (List (Option RW)) := [
  [some (.aload_n 0, 1, [0], 0, 0), some (.getfield 40, 3, [0, 9, 2, 1, 6, 7], 0, 0), none, none, some (.iload_n 1, 1, [1], 0, 0), some (.iload_n 2, 1, [2], 0, 0), some (.iastore, 1, [], 0, 0), some (.iload_n 1, 1, [1], 0, 0), some (.bipush 8, 2, [], 8, 0), none, some (.imul, 1, [], 0, 0), some (.istore_n 3, 1, [3], 0, 0), some (.iconst 0, 1, [], 0, 0), some (.istore 4, 2, [4], 0, 0), none, some (.iload 4, 2, [4], 0, 0), none, some (.aload_n 0, 1, [0], 0, 0), some (.getfield 15, 3, [0, 1, 0], 0, 0), none, none, some (.if_icmp .ge 42, 3, [63], 0, 0), none, none, some (.aload_n 0, 1, [0], 0, 0), some (.getfield 43, 3, [0, 10, 2, 1, 56, 8], 0, 0), none, none, some (.iload_n 3, 1, [3], 0, 0), some (.bipush 8, 2, [], 8, 0), none, some (.iadd, 1, [], 0, 0)],
  [some (.iload 4, 2, [4], 0, 0), none, some (.iadd, 1, [], 0, 0), some (.aload_n 0, 1, [0], 0, 0), some (.getfield 43, 3, [0, 10, 2, 1, 56, 8], 0, 0), none, none, some (.iload_n 3, 1, [3], 0, 0), some (.iload 4, 2, [4], 0, 0), none, some (.iadd, 1, [], 0, 0), some (.iaload, 1, [], 0, 0), some (.iload_n 2, 1, [2], 0, 0), some (.aload_n 0, 1, [0], 0, 0), some (.getfield 21, 3, [0, 3, 2, 1, 48, 1], 0, 0), none, none, some (.iload_n 3, 1, [3], 0, 0), some (.iload 4, 2, [4], 0, 0), none, some (.iadd, 1, [], 0, 0), some (.iaload, 1, [], 0, 0), some (.imul, 1, [], 0, 0), some (.iadd, 1, [], 0, 0), some (.iastore, 1, [], 0, 0), some (.iinc 4 1, 3, [4], 1, 0), none, none, some (.goto (-45), 3, [15], 0, 0), none, none, some (.return_, 1, [], 0, 0)]]
def F_Asked_put_15 (N : Nat) (bk : (Int32 → Int32 → Int32 → MH → Option (MH))) (a2 : Int32) (a3 : Int32) (a4 : Int32) (h : MH) : Option (MH) :=
  if (gI h 33 1) ≤ a4 then
  (some h)
  else
  (if inB (a3 + a4) 56 = true then
  (if inB (a3 + a4) 48 = true then
  (if inB ((a3 + 8) + a4) 56 = true then
  (let h3 : MH := sI h 41 (iN ((a3 + 8) + a4)) ((gI h 41 (iN (a3 + a4))) + (a2 * (gI h 34 (iN (a3 + a4)))))
  let v4 : Int32 := a4 + 1
  bk a2 a3 v4 h3)
  else none)
  else none)
  else none)
def F_Asked_put_0 (N : Nat) (bk : (Int32 → Int32 → Int32 → MH → Option (MH))) (a1 : Int32) (a2 : Int32) (h : MH) : Option (MH) :=
  if inB a1 6 = true then
  (let h1 : MH := sI h 40 (iN a1) a2
  let v2 : Int32 := a1 * 8
  F_Asked_put_15 N bk a2 v2 0 h1)
  else none
def L_Asked_put (N : Nat) : Nat → (Int32 → Int32 → Int32 → MH → Option (MH))
  | 0 => fun _ _ _ _ => none
  | n + 1 => F_Asked_put_15 N (L_Asked_put N n)
def f_Asked_put (N : Nat) (a1 : Int32) (a2 : Int32) (h : MH) : Option (MH) := F_Asked_put_0 N (L_Asked_put N N) a1 a2 h
def C_Asked_put (N : Nat) : MC := (KDL, false, (fun _ => 0), jsB, (fun _ _ _ => none), (fun _ _ _ => none), (fun _ _ _ => none), (fun _ _ _ => none))
def D_Asked_put (N : Nat) (n pc : Nat) (lv : ML) (st : List MV) (h : MH) : Option (MH) :=
  match Nat.beq pc 0 with
  | true => (match lk lv 0, lk lv 1, lk lv 2, st with
    | some (.inr (.inr (0, 0, 33))), some (.inl a1), some (.inl a2), [] => F_Asked_put_0 N (L_Asked_put N n) a1 a2 h
    | _, _, _, _ => none)
  | false => match Nat.beq pc 15 with
  | true => (match lk lv 0, lk lv 2, lk lv 3, lk lv 4, st with
    | some (.inr (.inr (0, 0, 33))), some (.inl a2), some (.inl a3), some (.inl a4), [] => F_Asked_put_15 N (L_Asked_put N n) a2 a3 a4 h
    | _, _, _, _, _ => none)
  | false => none
def B_Asked_put (N : Nat) (n pc : Nat) (lv : ML) (st : List MV) (h : MH) : Option (MH) :=
  match Nat.beq pc 15 with
  | true => (match lk lv 0, lk lv 2, lk lv 3, lk lv 4, st with
    | some (.inr (.inr (0, 0, 33))), some (.inl a2), some (.inl a3), some (.inl a4), [] => ((L_Asked_put N n)) a2 a3 a4 h
    | _, _, _, _, _ => none)
  | false => none
set_option maxRecDepth 1000000 in
theorem E_Asked_put_0 (N : Nat) (n : Nat) (a1 : Int32) (a2 : Int32) (h : MH) : seg (C_Asked_put N) 5 0 rV T_Asked_put [0, 15] (fun q lv st h => match Nat.ble 1 q with
    | true => D_Asked_put N n q lv st h
    | false => B_Asked_put N n q lv st h) 400 true 0 [(0, .inr (.inr (0, 0, 33))), (1, .inl a1), (2, .inl a2)] [] h = F_Asked_put_0 N (L_Asked_put N n) a1 a2 h := (rfl)
set_option maxRecDepth 1000000 in
theorem E_Asked_put_15 (N : Nat) (n : Nat) (a2 : Int32) (a3 : Int32) (a4 : Int32) (h : MH) : seg (C_Asked_put N) 5 0 rV T_Asked_put [0, 15] (fun q lv st h => match Nat.ble 16 q with
    | true => D_Asked_put N n q lv st h
    | false => B_Asked_put N n q lv st h) 400 true 15 [(0, .inr (.inr (0, 0, 33))), (2, .inl a2), (3, .inl a3), (4, .inl a4)] [] h = F_Asked_put_15 N (L_Asked_put N n) a2 a3 a4 h := (rfl)
set_option maxRecDepth 1000000 in
theorem chk_Asked_put : chkT 0 false prog_2_method_4_code T_Asked_put = true := by decide +kernel
theorem mc_Asked_put : mC 3 = prog_2_method_4_code := by rfl
theorem mx_Asked_put : mL 3 = 5 ∧ mR 3 = none ∧ mK 3 = 1 ∧ (mN 3).cls = cN 0 := by decide +kernel
theorem hD_Asked_put (N : Nat) {r : MH} : ∀ n pc lv st h, D_Asked_put N n pc lv st h = some r → ∃ lv', (∀ q ∈ lv', q ∈ lv) ∧ seg (C_Asked_put N) 5 0 rV T_Asked_put [0, 15] (fun q lv st h => match Nat.ble (pc + 1) q with
    | true => D_Asked_put N n q lv st h
    | false => B_Asked_put N n q lv st h) 400 true pc lv' st h = some r := by
  intro n pc lv st h hf
  unfold D_Asked_put at hf
  split at hf
  · rename_i hb
    have hb := Nat.eq_of_beq_eq_true hb
    subst hb
    split at hf
    · rename_i y0 y1 e0 e1 e2
      exact ⟨_, (sub_cons e0 (sub_cons e1 (sub_cons e2 sub_nil))), (E_Asked_put_0 N n _ _ h).trans hf⟩
    · cases hf
  · skip
    split at hf
    · rename_i hb
      have hb := Nat.eq_of_beq_eq_true hb
      subst hb
      split at hf
      · rename_i y0 y1 y2 e0 e1 e2 e3
        exact ⟨_, (sub_cons e0 (sub_cons e1 (sub_cons e2 (sub_cons e3 sub_nil)))), (E_Asked_put_15 N n _ _ _ h).trans hf⟩
      · cases hf
    · skip
      cases hf
theorem hM_Asked_put (N : Nat) {r : MH} : ∀ n pc lv st h, D_Asked_put N n pc lv st h = some r → pc < 64 := by
  intro n pc lv st h hf
  unfold D_Asked_put at hf
  split at hf
  · rename_i hb
    rw [Nat.eq_of_beq_eq_true hb]
    decide
  · skip
    split at hf
    · rename_i hb
      rw [Nat.eq_of_beq_eq_true hb]
      decide
    · skip
      cases hf
theorem hB_Asked_put (N : Nat) {r : MH} : ∀ n pc lv st h, B_Asked_put N n pc lv st h = some r → ∃ k, n = k + 1 ∧ D_Asked_put N k pc lv st h = some r := by
  intro n pc lv st h hf
  unfold B_Asked_put at hf
  split at hf
  · rename_i hb
    have hb := Nat.eq_of_beq_eq_true hb
    subst hb
    cases n with
    | zero =>
      split at hf
      · cases hf
      · cases hf
    | succ k =>
      refine ⟨k, rfl, ?_⟩
      exact hf
  · skip
    cases hf
theorem s_Asked_put {l : Launch} {E : EV} {N : Nat} {as : List MV} {h : MH} {r : MH} (hf : w_Asked_put (f_Asked_put N) as h = some r) : SndM l E false 0 3 as h none r := by
  unfold w_Asked_put at hf
  split at hf
  · obtain ⟨m1, m2, m3, m4⟩ := mx_Asked_put
    refine snd_of (C := C_Asked_put N) (own := 0) (rz := 0) (lim := 115) rV_eq m2 m4 pl_3 (TB_in _ cw_3 rfl) ⟨(fun _ => ⟨_, _, _, _, _, _, rfl, rfl, by rw [m4]; rfl⟩), (fun z => by rw [m3] at z; cases z)⟩ (fun z => by cases z) KDL_take rfl rfl (fun z => by cases z) (fun z => by cases z) (fun _ => rfl) (by rw [m1]; exact Nat.le_of_ble_eq_true rfl)
      (fun _ _ _ _ z => by cases z)
      (fun _ _ _ _ z => by cases z)
      (fun _ _ _ _ z => by cases z)
      (fun _ _ _ _ z => by cases z)
      (fun p e R s m args below meth c Q n0 F hret => ?_)
    rw [m1] at F hret ⊢
    rw [mc_Asked_put] at F hret
    exact cuts_s (K := 400) (M := 64) (D := D_Asked_put N) (B := B_Asked_put N) F hret (chkT_ok chk_Asked_put) (hM_Asked_put N) (hB_Asked_put N) (hD_Asked_put N) N 0 _ _ _ hf
  · cases hf
def T_Asked_leastBeside : List (List (Option RW)) := [
  [some (.iconst 0, 1, [], 0, 0), some (.istore_n 3, 1, [3], 0, 0), some (.iconst 0, 1, [], 0, 0), some (.istore 4, 2, [4], 0, 0), none, some (.iload 4, 2, [4], 0, 0), none, some (.iload_n 1, 1, [1], 0, 0), some (.if_icmp .ge 37, 3, [45], 0, 0), none, none, some (.aload_n 0, 1, [0], 0, 0), some (.getfield 25, 3, [0, 4, 2, 1, 6, 2], 0, 0), none, none, some (.iload_n 1, 1, [1], 0, 0), some (.iaload, 1, [], 0, 0), some (.iload 4, 2, [4], 0, 0), none, some (.ishr, 1, [], 0, 0), some (.iconst 1, 1, [], 1, 0), some (.iand, 1, [], 0, 0), some (.ifCond .eq 17, 3, [39], 0, 0), none, none, some (.iload_n 3, 1, [3], 0, 0), some (.aload_n 0, 1, [0], 0, 0), some (.getfield 40, 3, [0, 9, 2, 1, 6, 7], 0, 0), none, none, some (.iload 4, 2, [4], 0, 0), none],
  [some (.iaload, 1, [], 0, 0), some (.iload_n 2, 1, [2], 0, 0), some (.isub, 1, [], 0, 0), some (.invokestatic 89, 3, [2, 260, 2, 0], 0, 0), none, none, some (.istore_n 3, 1, [3], 0, 0), some (.iinc 4 1, 3, [4], 1, 0), none, none, some (.goto (-37), 3, [5], 0, 0), none, none, some (.iload_n 3, 1, [3], 0, 0), some (.ireturn, 1, [], 0, 0)]]
def F_Asked_leastBeside_5 (N : Nat) (bk : (Int32 → Int32 → Int32 → Int32 → MH → Option (Int32 × MH))) (a1 : Int32) (a2 : Int32) (a3 : Int32) (a4 : Int32) (h : MH) : Option (Int32 × MH) :=
  if a1 ≤ a4 then
  (some (a3, h))
  else
  (if inB a1 6 = true then
  (if ((((gI h 35 (iN a1))) >>> (a4 &&& 31)) &&& 1) = 0 then
  (let v1 : Int32 := a4 + 1
  bk a1 a2 a3 v1 h)
  else
  (if inB a4 6 = true then
  ((f_Math_max N a3 ((gI h 40 (iN a4)) - a2) h).bind (fun x2 =>
  let v3 : Int32 := a4 + 1
  bk a1 a2 x2.1 v3 x2.2))
  else none))
  else none)
def F_Asked_leastBeside_0 (N : Nat) (bk : (Int32 → Int32 → Int32 → Int32 → MH → Option (Int32 × MH))) (a1 : Int32) (a2 : Int32) (h : MH) : Option (Int32 × MH) :=
  F_Asked_leastBeside_5 N bk a1 a2 0 0 h
def L_Asked_leastBeside (N : Nat) : Nat → (Int32 → Int32 → Int32 → Int32 → MH → Option (Int32 × MH))
  | 0 => fun _ _ _ _ _ => none
  | n + 1 => F_Asked_leastBeside_5 N (L_Asked_leastBeside N n)
def f_Asked_leastBeside (N : Nat) (a1 : Int32) (a2 : Int32) (h : MH) : Option (Int32 × MH) := F_Asked_leastBeside_0 N (L_Asked_leastBeside N N) a1 a2 h
def C_Asked_leastBeside (N : Nat) : MC := (KDL, false, (fun _ => 0), jsB, (fun j => match Nat.beq j 260 with
    | true => w_Math_max (f_Math_max N)
    | false => fun _ _ => none), (fun _ _ _ => none), (fun _ _ _ => none), (fun _ _ _ => none))
def D_Asked_leastBeside (N : Nat) (n pc : Nat) (lv : ML) (st : List MV) (h : MH) : Option (Int32 × MH) :=
  match Nat.beq pc 0 with
  | true => (match lk lv 0, lk lv 1, lk lv 2, st with
    | some (.inr (.inr (0, 0, 33))), some (.inl a1), some (.inl a2), [] => F_Asked_leastBeside_0 N (L_Asked_leastBeside N n) a1 a2 h
    | _, _, _, _ => none)
  | false => match Nat.beq pc 5 with
  | true => (match lk lv 0, lk lv 1, lk lv 2, lk lv 3, lk lv 4, st with
    | some (.inr (.inr (0, 0, 33))), some (.inl a1), some (.inl a2), some (.inl a3), some (.inl a4), [] => F_Asked_leastBeside_5 N (L_Asked_leastBeside N n) a1 a2 a3 a4 h
    | _, _, _, _, _, _ => none)
  | false => none
def B_Asked_leastBeside (N : Nat) (n pc : Nat) (lv : ML) (st : List MV) (h : MH) : Option (Int32 × MH) :=
  match Nat.beq pc 5 with
  | true => (match lk lv 0, lk lv 1, lk lv 2, lk lv 3, lk lv 4, st with
    | some (.inr (.inr (0, 0, 33))), some (.inl a1), some (.inl a2), some (.inl a3), some (.inl a4), [] => ((L_Asked_leastBeside N n)) a1 a2 a3 a4 h
    | _, _, _, _, _, _ => none)
  | false => none
set_option maxRecDepth 1000000 in
theorem E_Asked_leastBeside_0 (N : Nat) (n : Nat) (a1 : Int32) (a2 : Int32) (h : MH) : seg (C_Asked_leastBeside N) 5 0 rI T_Asked_leastBeside [0, 5] (fun q lv st h => match Nat.ble 1 q with
    | true => D_Asked_leastBeside N n q lv st h
    | false => B_Asked_leastBeside N n q lv st h) 400 true 0 [(0, .inr (.inr (0, 0, 33))), (1, .inl a1), (2, .inl a2)] [] h = F_Asked_leastBeside_0 N (L_Asked_leastBeside N n) a1 a2 h := (rfl)
set_option maxRecDepth 1000000 in
theorem E_Asked_leastBeside_5 (N : Nat) (n : Nat) (a1 : Int32) (a2 : Int32) (a3 : Int32) (a4 : Int32) (h : MH) : seg (C_Asked_leastBeside N) 5 0 rI T_Asked_leastBeside [0, 5] (fun q lv st h => match Nat.ble 6 q with
    | true => D_Asked_leastBeside N n q lv st h
    | false => B_Asked_leastBeside N n q lv st h) 400 true 5 [(0, .inr (.inr (0, 0, 33))), (1, .inl a1), (2, .inl a2), (3, .inl a3), (4, .inl a4)] [] h = F_Asked_leastBeside_5 N (L_Asked_leastBeside N n) a1 a2 a3 a4 h := (rfl)
set_option maxRecDepth 1000000 in
theorem chk_Asked_leastBeside : chkT 0 false prog_2_method_5_code T_Asked_leastBeside = true := by decide +kernel
theorem mc_Asked_leastBeside : mC 4 = prog_2_method_5_code := by rfl
theorem mx_Asked_leastBeside : mL 4 = 5 ∧ mR 4 = some .int ∧ mK 4 = 1 ∧ (mN 4).cls = cN 0 := by decide +kernel
theorem hD_Asked_leastBeside (N : Nat) {r : Int32 × MH} : ∀ n pc lv st h, D_Asked_leastBeside N n pc lv st h = some r → ∃ lv', (∀ q ∈ lv', q ∈ lv) ∧ seg (C_Asked_leastBeside N) 5 0 rI T_Asked_leastBeside [0, 5] (fun q lv st h => match Nat.ble (pc + 1) q with
    | true => D_Asked_leastBeside N n q lv st h
    | false => B_Asked_leastBeside N n q lv st h) 400 true pc lv' st h = some r := by
  intro n pc lv st h hf
  unfold D_Asked_leastBeside at hf
  split at hf
  · rename_i hb
    have hb := Nat.eq_of_beq_eq_true hb
    subst hb
    split at hf
    · rename_i y0 y1 e0 e1 e2
      exact ⟨_, (sub_cons e0 (sub_cons e1 (sub_cons e2 sub_nil))), (E_Asked_leastBeside_0 N n _ _ h).trans hf⟩
    · cases hf
  · skip
    split at hf
    · rename_i hb
      have hb := Nat.eq_of_beq_eq_true hb
      subst hb
      split at hf
      · rename_i y0 y1 y2 y3 e0 e1 e2 e3 e4
        exact ⟨_, (sub_cons e0 (sub_cons e1 (sub_cons e2 (sub_cons e3 (sub_cons e4 sub_nil))))), (E_Asked_leastBeside_5 N n _ _ _ _ h).trans hf⟩
      · cases hf
    · skip
      cases hf
theorem hM_Asked_leastBeside (N : Nat) {r : Int32 × MH} : ∀ n pc lv st h, D_Asked_leastBeside N n pc lv st h = some r → pc < 47 := by
  intro n pc lv st h hf
  unfold D_Asked_leastBeside at hf
  split at hf
  · rename_i hb
    rw [Nat.eq_of_beq_eq_true hb]
    decide
  · skip
    split at hf
    · rename_i hb
      rw [Nat.eq_of_beq_eq_true hb]
      decide
    · skip
      cases hf
theorem hB_Asked_leastBeside (N : Nat) {r : Int32 × MH} : ∀ n pc lv st h, B_Asked_leastBeside N n pc lv st h = some r → ∃ k, n = k + 1 ∧ D_Asked_leastBeside N k pc lv st h = some r := by
  intro n pc lv st h hf
  unfold B_Asked_leastBeside at hf
  split at hf
  · rename_i hb
    have hb := Nat.eq_of_beq_eq_true hb
    subst hb
    cases n with
    | zero =>
      split at hf
      · cases hf
      · cases hf
    | succ k =>
      refine ⟨k, rfl, ?_⟩
      exact hf
  · skip
    cases hf
theorem s_Asked_leastBeside {l : Launch} {E : EV} {N : Nat} {as : List MV} {h : MH} {r : Int32 × MH} (hf : w_Asked_leastBeside (f_Asked_leastBeside N) as h = some r) : SndM l E false 1 4 as h (some (.inl r.1)) r.2 := by
  unfold w_Asked_leastBeside at hf
  split at hf
  · obtain ⟨m1, m2, m3, m4⟩ := mx_Asked_leastBeside
    refine snd_of (C := C_Asked_leastBeside N) (own := 0) (rz := 0) (lim := 115) rI_eq m2 m4 pl_4 (TB_in _ cw_4 rfl) ⟨(fun _ => ⟨_, _, _, _, _, _, rfl, rfl, by rw [m4]; rfl⟩), (fun z => by rw [m3] at z; cases z)⟩ (fun z => by cases z) KDL_take rfl rfl (fun z => by cases z) (fun z => by cases z) (fun _ => rfl) (by rw [m1]; exact Nat.le_of_ble_eq_true rfl)
      (fun j as h x z => by
      dsimp only [C_Asked_leastBeside] at z
      cases hb : Nat.beq j 260 with
      | true =>
        have hb := Nat.eq_of_beq_eq_true hb
        subst hb
        exact ⟨0, by decide, (fun z => by cases z), s_Math_max z⟩
      | false =>
        rw [hb] at z
        dsimp only at z
        cases z)
      (fun _ _ _ _ z => by cases z)
      (fun _ _ _ _ z => by cases z)
      (fun _ _ _ _ z => by cases z)
      (fun p e R s m args below meth c Q n0 F hret => ?_)
    rw [m1] at F hret ⊢
    rw [mc_Asked_leastBeside] at F hret
    exact cuts_s (K := 400) (M := 47) (D := D_Asked_leastBeside N) (B := B_Asked_leastBeside N) F hret (chkT_ok chk_Asked_leastBeside) (hM_Asked_leastBeside N) (hB_Asked_leastBeside N) (hD_Asked_leastBeside N) N 0 _ _ _ hf
  · cases hf
def T_Asked_mostBeside : List (List (Option RW)) := [
  [some (.bipush 9, 2, [], 9, 0), none, some (.istore_n 3, 1, [3], 0, 0), some (.iconst 0, 1, [], 0, 0), some (.istore 4, 2, [4], 0, 0), none, some (.iload 4, 2, [4], 0, 0), none, some (.iload_n 1, 1, [1], 0, 0), some (.if_icmp .ge 37, 3, [46], 0, 0), none, none, some (.aload_n 0, 1, [0], 0, 0), some (.getfield 25, 3, [0, 4, 2, 1, 6, 2], 0, 0), none, none, some (.iload_n 1, 1, [1], 0, 0), some (.iaload, 1, [], 0, 0), some (.iload 4, 2, [4], 0, 0), none, some (.ishr, 1, [], 0, 0), some (.iconst 1, 1, [], 1, 0), some (.iand, 1, [], 0, 0), some (.ifCond .eq 17, 3, [40], 0, 0), none, none, some (.iload_n 3, 1, [3], 0, 0), some (.aload_n 0, 1, [0], 0, 0), some (.getfield 40, 3, [0, 9, 2, 1, 6, 7], 0, 0), none, none, some (.iload 4, 2, [4], 0, 0)],
  [none, some (.iaload, 1, [], 0, 0), some (.iload_n 2, 1, [2], 0, 0), some (.iadd, 1, [], 0, 0), some (.invokestatic 83, 3, [2, 261, 2, 0], 0, 0), none, none, some (.istore_n 3, 1, [3], 0, 0), some (.iinc 4 1, 3, [4], 1, 0), none, none, some (.goto (-37), 3, [6], 0, 0), none, none, some (.iload_n 3, 1, [3], 0, 0), some (.ireturn, 1, [], 0, 0)]]
def F_Asked_mostBeside_6 (N : Nat) (bk : (Int32 → Int32 → Int32 → Int32 → MH → Option (Int32 × MH))) (a1 : Int32) (a2 : Int32) (a3 : Int32) (a4 : Int32) (h : MH) : Option (Int32 × MH) :=
  if a1 ≤ a4 then
  (some (a3, h))
  else
  (if inB a1 6 = true then
  (if ((((gI h 35 (iN a1))) >>> (a4 &&& 31)) &&& 1) = 0 then
  (let v1 : Int32 := a4 + 1
  bk a1 a2 a3 v1 h)
  else
  (if inB a4 6 = true then
  ((f_Math_min_II N a3 ((gI h 40 (iN a4)) + a2) h).bind (fun x2 =>
  let v3 : Int32 := a4 + 1
  bk a1 a2 x2.1 v3 x2.2))
  else none))
  else none)
def F_Asked_mostBeside_0 (N : Nat) (bk : (Int32 → Int32 → Int32 → Int32 → MH → Option (Int32 × MH))) (a1 : Int32) (a2 : Int32) (h : MH) : Option (Int32 × MH) :=
  F_Asked_mostBeside_6 N bk a1 a2 9 0 h
def L_Asked_mostBeside (N : Nat) : Nat → (Int32 → Int32 → Int32 → Int32 → MH → Option (Int32 × MH))
  | 0 => fun _ _ _ _ _ => none
  | n + 1 => F_Asked_mostBeside_6 N (L_Asked_mostBeside N n)
def f_Asked_mostBeside (N : Nat) (a1 : Int32) (a2 : Int32) (h : MH) : Option (Int32 × MH) := F_Asked_mostBeside_0 N (L_Asked_mostBeside N N) a1 a2 h
def C_Asked_mostBeside (N : Nat) : MC := (KDL, false, (fun _ => 0), jsB, (fun j => match Nat.beq j 261 with
    | true => w_Math_min_II (f_Math_min_II N)
    | false => fun _ _ => none), (fun _ _ _ => none), (fun _ _ _ => none), (fun _ _ _ => none))
def D_Asked_mostBeside (N : Nat) (n pc : Nat) (lv : ML) (st : List MV) (h : MH) : Option (Int32 × MH) :=
  match Nat.beq pc 0 with
  | true => (match lk lv 0, lk lv 1, lk lv 2, st with
    | some (.inr (.inr (0, 0, 33))), some (.inl a1), some (.inl a2), [] => F_Asked_mostBeside_0 N (L_Asked_mostBeside N n) a1 a2 h
    | _, _, _, _ => none)
  | false => match Nat.beq pc 6 with
  | true => (match lk lv 0, lk lv 1, lk lv 2, lk lv 3, lk lv 4, st with
    | some (.inr (.inr (0, 0, 33))), some (.inl a1), some (.inl a2), some (.inl a3), some (.inl a4), [] => F_Asked_mostBeside_6 N (L_Asked_mostBeside N n) a1 a2 a3 a4 h
    | _, _, _, _, _, _ => none)
  | false => none
def B_Asked_mostBeside (N : Nat) (n pc : Nat) (lv : ML) (st : List MV) (h : MH) : Option (Int32 × MH) :=
  match Nat.beq pc 6 with
  | true => (match lk lv 0, lk lv 1, lk lv 2, lk lv 3, lk lv 4, st with
    | some (.inr (.inr (0, 0, 33))), some (.inl a1), some (.inl a2), some (.inl a3), some (.inl a4), [] => ((L_Asked_mostBeside N n)) a1 a2 a3 a4 h
    | _, _, _, _, _, _ => none)
  | false => none
set_option maxRecDepth 1000000 in
theorem E_Asked_mostBeside_0 (N : Nat) (n : Nat) (a1 : Int32) (a2 : Int32) (h : MH) : seg (C_Asked_mostBeside N) 5 0 rI T_Asked_mostBeside [0, 6] (fun q lv st h => match Nat.ble 1 q with
    | true => D_Asked_mostBeside N n q lv st h
    | false => B_Asked_mostBeside N n q lv st h) 400 true 0 [(0, .inr (.inr (0, 0, 33))), (1, .inl a1), (2, .inl a2)] [] h = F_Asked_mostBeside_0 N (L_Asked_mostBeside N n) a1 a2 h := (rfl)
set_option maxRecDepth 1000000 in
theorem E_Asked_mostBeside_6 (N : Nat) (n : Nat) (a1 : Int32) (a2 : Int32) (a3 : Int32) (a4 : Int32) (h : MH) : seg (C_Asked_mostBeside N) 5 0 rI T_Asked_mostBeside [0, 6] (fun q lv st h => match Nat.ble 7 q with
    | true => D_Asked_mostBeside N n q lv st h
    | false => B_Asked_mostBeside N n q lv st h) 400 true 6 [(0, .inr (.inr (0, 0, 33))), (1, .inl a1), (2, .inl a2), (3, .inl a3), (4, .inl a4)] [] h = F_Asked_mostBeside_6 N (L_Asked_mostBeside N n) a1 a2 a3 a4 h := (rfl)
set_option maxRecDepth 1000000 in
theorem chk_Asked_mostBeside : chkT 0 false prog_2_method_6_code T_Asked_mostBeside = true := by decide +kernel
theorem mc_Asked_mostBeside : mC 5 = prog_2_method_6_code := by rfl
theorem mx_Asked_mostBeside : mL 5 = 5 ∧ mR 5 = some .int ∧ mK 5 = 1 ∧ (mN 5).cls = cN 0 := by decide +kernel
theorem hD_Asked_mostBeside (N : Nat) {r : Int32 × MH} : ∀ n pc lv st h, D_Asked_mostBeside N n pc lv st h = some r → ∃ lv', (∀ q ∈ lv', q ∈ lv) ∧ seg (C_Asked_mostBeside N) 5 0 rI T_Asked_mostBeside [0, 6] (fun q lv st h => match Nat.ble (pc + 1) q with
    | true => D_Asked_mostBeside N n q lv st h
    | false => B_Asked_mostBeside N n q lv st h) 400 true pc lv' st h = some r := by
  intro n pc lv st h hf
  unfold D_Asked_mostBeside at hf
  split at hf
  · rename_i hb
    have hb := Nat.eq_of_beq_eq_true hb
    subst hb
    split at hf
    · rename_i y0 y1 e0 e1 e2
      exact ⟨_, (sub_cons e0 (sub_cons e1 (sub_cons e2 sub_nil))), (E_Asked_mostBeside_0 N n _ _ h).trans hf⟩
    · cases hf
  · skip
    split at hf
    · rename_i hb
      have hb := Nat.eq_of_beq_eq_true hb
      subst hb
      split at hf
      · rename_i y0 y1 y2 y3 e0 e1 e2 e3 e4
        exact ⟨_, (sub_cons e0 (sub_cons e1 (sub_cons e2 (sub_cons e3 (sub_cons e4 sub_nil))))), (E_Asked_mostBeside_6 N n _ _ _ _ h).trans hf⟩
      · cases hf
    · skip
      cases hf
theorem hM_Asked_mostBeside (N : Nat) {r : Int32 × MH} : ∀ n pc lv st h, D_Asked_mostBeside N n pc lv st h = some r → pc < 48 := by
  intro n pc lv st h hf
  unfold D_Asked_mostBeside at hf
  split at hf
  · rename_i hb
    rw [Nat.eq_of_beq_eq_true hb]
    decide
  · skip
    split at hf
    · rename_i hb
      rw [Nat.eq_of_beq_eq_true hb]
      decide
    · skip
      cases hf
theorem hB_Asked_mostBeside (N : Nat) {r : Int32 × MH} : ∀ n pc lv st h, B_Asked_mostBeside N n pc lv st h = some r → ∃ k, n = k + 1 ∧ D_Asked_mostBeside N k pc lv st h = some r := by
  intro n pc lv st h hf
  unfold B_Asked_mostBeside at hf
  split at hf
  · rename_i hb
    have hb := Nat.eq_of_beq_eq_true hb
    subst hb
    cases n with
    | zero =>
      split at hf
      · cases hf
      · cases hf
    | succ k =>
      refine ⟨k, rfl, ?_⟩
      exact hf
  · skip
    cases hf
theorem s_Asked_mostBeside {l : Launch} {E : EV} {N : Nat} {as : List MV} {h : MH} {r : Int32 × MH} (hf : w_Asked_mostBeside (f_Asked_mostBeside N) as h = some r) : SndM l E false 1 5 as h (some (.inl r.1)) r.2 := by
  unfold w_Asked_mostBeside at hf
  split at hf
  · obtain ⟨m1, m2, m3, m4⟩ := mx_Asked_mostBeside
    refine snd_of (C := C_Asked_mostBeside N) (own := 0) (rz := 0) (lim := 115) rI_eq m2 m4 pl_5 (TB_in _ cw_5 rfl) ⟨(fun _ => ⟨_, _, _, _, _, _, rfl, rfl, by rw [m4]; rfl⟩), (fun z => by rw [m3] at z; cases z)⟩ (fun z => by cases z) KDL_take rfl rfl (fun z => by cases z) (fun z => by cases z) (fun _ => rfl) (by rw [m1]; exact Nat.le_of_ble_eq_true rfl)
      (fun j as h x z => by
      dsimp only [C_Asked_mostBeside] at z
      cases hb : Nat.beq j 261 with
      | true =>
        have hb := Nat.eq_of_beq_eq_true hb
        subst hb
        exact ⟨0, by decide, (fun z => by cases z), s_Math_min_II z⟩
      | false =>
        rw [hb] at z
        dsimp only at z
        cases z)
      (fun _ _ _ _ z => by cases z)
      (fun _ _ _ _ z => by cases z)
      (fun _ _ _ _ z => by cases z)
      (fun p e R s m args below meth c Q n0 F hret => ?_)
    rw [m1] at F hret ⊢
    rw [mc_Asked_mostBeside] at F hret
    exact cuts_s (K := 400) (M := 48) (D := D_Asked_mostBeside N) (B := B_Asked_mostBeside N) F hret (chkT_ok chk_Asked_mostBeside) (hM_Asked_mostBeside N) (hB_Asked_mostBeside N) (hD_Asked_mostBeside N) N 0 _ _ _ hf
  · cases hf
def T_Asked_stillOpen : List (List (Option RW)) := [
  [some (.iconst 0, 1, [], 0, 0), some (.istore_n 3, 1, [3], 0, 0), some (.iconst 0, 1, [], 0, 0), some (.istore 4, 2, [4], 0, 0), none, some (.iload 4, 2, [4], 0, 0), none, some (.aload_n 0, 1, [0], 0, 0), some (.getfield 15, 3, [0, 1, 0], 0, 0), none, none, some (.if_icmp .ge 84, 3, [95], 0, 0), none, none, some (.iload_n 1, 1, [1], 0, 0), some (.bipush 8, 2, [], 8, 0), none, some (.imul, 1, [], 0, 0), some (.iload 4, 2, [4], 0, 0), none, some (.iadd, 1, [], 0, 0), some (.istore 5, 2, [5], 0, 0), none, some (.iload_n 2, 1, [2], 0, 0), some (.iload 4, 2, [4], 0, 0), none, some (.ishr, 1, [], 0, 0), some (.iconst 1, 1, [], 1, 0), some (.iand, 1, [], 0, 0), some (.ifCond .eq 60, 3, [89], 0, 0), none, none],
  [some (.aload_n 0, 1, [0], 0, 0), some (.getfield 43, 3, [0, 10, 2, 1, 56, 8], 0, 0), none, none, some (.iload 5, 2, [5], 0, 0), none, some (.iaload, 1, [], 0, 0), some (.aload_n 0, 1, [0], 0, 0), some (.getfield 34, 3, [0, 7, 2, 1, 56, 5], 0, 0), none, none, some (.iload 5, 2, [5], 0, 0), none, some (.iaload, 1, [], 0, 0), some (.iadd, 1, [], 0, 0), some (.aload_n 0, 1, [0], 0, 0), some (.getfield 28, 3, [0, 5, 2, 1, 8, 3], 0, 0), none, none, some (.iload 4, 2, [4], 0, 0), none, some (.iaload, 1, [], 0, 0), some (.if_icmp .lt 28, 3, [82], 0, 0), none, none, some (.aload_n 0, 1, [0], 0, 0), some (.getfield 43, 3, [0, 10, 2, 1, 56, 8], 0, 0), none, none, some (.iload 5, 2, [5], 0, 0), none, some (.iaload, 1, [], 0, 0)],
  [some (.aload_n 0, 1, [0], 0, 0), some (.getfield 37, 3, [0, 8, 2, 1, 56, 6], 0, 0), none, none, some (.iload 5, 2, [5], 0, 0), none, some (.iaload, 1, [], 0, 0), some (.iadd, 1, [], 0, 0), some (.aload_n 0, 1, [0], 0, 0), some (.getfield 31, 3, [0, 6, 2, 1, 8, 4], 0, 0), none, none, some (.iload 4, 2, [4], 0, 0), none, some (.iaload, 1, [], 0, 0), some (.if_icmp .le 10, 3, [89], 0, 0), none, none, some (.iload_n 3, 1, [3], 0, 0), some (.iconst 1, 1, [], 1, 0), some (.iload 4, 2, [4], 0, 0), none, some (.ishl, 1, [], 0, 0), some (.ior, 1, [], 0, 0), some (.istore_n 3, 1, [3], 0, 0), some (.iinc 4 1, 3, [4], 1, 0), none, none, some (.goto (-87), 3, [5], 0, 0), none, none, some (.iload_n 3, 1, [3], 0, 0)],
  [some (.ireturn, 1, [], 0, 0)]]
def F_Asked_stillOpen_82 (N : Nat) (bk : (Int32 → Int32 → Int32 → Int32 → MH → Option (Int32 × MH))) (a1 : Int32) (a2 : Int32) (a3 : Int32) (a4 : Int32) (h : MH) : Option (Int32 × MH) :=
  let v4 : Int32 := a3 ||| ((1 : Int32) <<< (a4 &&& 31))
  let v5 : Int32 := a4 + 1
  bk a1 a2 v4 v5 h
def F_Asked_stillOpen_5 (N : Nat) (bk : (Int32 → Int32 → Int32 → Int32 → MH → Option (Int32 × MH))) (a1 : Int32) (a2 : Int32) (a3 : Int32) (a4 : Int32) (h : MH) : Option (Int32 × MH) :=
  if (gI h 33 1) ≤ a4 then
  (some (a3, h))
  else
  (let v1 : Int32 := (a1 * 8) + a4
  if ((a2 >>> (a4 &&& 31)) &&& 1) = 0 then
  (let v2 : Int32 := a4 + 1
  bk a1 a2 a3 v2 h)
  else
  (if inB v1 56 = true then
  (if inB v1 56 = true then
  (if inB a4 8 = true then
  (if ((gI h 41 (iN v1)) + (gI h 38 (iN v1))) < (gI h 36 (iN a4)) then
  (F_Asked_stillOpen_82 N bk a1 a2 a3 a4 h)
  else
  (if inB v1 56 = true then
  (if inB v1 56 = true then
  (if inB a4 8 = true then
  (if ((gI h 41 (iN v1)) + (gI h 39 (iN v1))) ≤ (gI h 37 (iN a4)) then
  (let v3 : Int32 := a4 + 1
  bk a1 a2 a3 v3 h)
  else
  (F_Asked_stillOpen_82 N bk a1 a2 a3 a4 h))
  else none)
  else none)
  else none))
  else none)
  else none)
  else none))
def F_Asked_stillOpen_0 (N : Nat) (bk : (Int32 → Int32 → Int32 → Int32 → MH → Option (Int32 × MH))) (a1 : Int32) (a2 : Int32) (h : MH) : Option (Int32 × MH) :=
  F_Asked_stillOpen_5 N bk a1 a2 0 0 h
def L_Asked_stillOpen (N : Nat) : Nat → (Int32 → Int32 → Int32 → Int32 → MH → Option (Int32 × MH))
  | 0 => fun _ _ _ _ _ => none
  | n + 1 => F_Asked_stillOpen_5 N (L_Asked_stillOpen N n)
def f_Asked_stillOpen (N : Nat) (a1 : Int32) (a2 : Int32) (h : MH) : Option (Int32 × MH) := F_Asked_stillOpen_0 N (L_Asked_stillOpen N N) a1 a2 h
def C_Asked_stillOpen (N : Nat) : MC := (KDL, false, (fun _ => 0), jsB, (fun _ _ _ => none), (fun _ _ _ => none), (fun _ _ _ => none), (fun _ _ _ => none))
def D_Asked_stillOpen (N : Nat) (n pc : Nat) (lv : ML) (st : List MV) (h : MH) : Option (Int32 × MH) :=
  match Nat.beq pc 0 with
  | true => (match lk lv 0, lk lv 1, lk lv 2, st with
    | some (.inr (.inr (0, 0, 33))), some (.inl a1), some (.inl a2), [] => F_Asked_stillOpen_0 N (L_Asked_stillOpen N n) a1 a2 h
    | _, _, _, _ => none)
  | false => match Nat.beq pc 5 with
  | true => (match lk lv 0, lk lv 1, lk lv 2, lk lv 3, lk lv 4, st with
    | some (.inr (.inr (0, 0, 33))), some (.inl a1), some (.inl a2), some (.inl a3), some (.inl a4), [] => F_Asked_stillOpen_5 N (L_Asked_stillOpen N n) a1 a2 a3 a4 h
    | _, _, _, _, _, _ => none)
  | false => match Nat.beq pc 82 with
  | true => (match lk lv 0, lk lv 1, lk lv 2, lk lv 3, lk lv 4, st with
    | some (.inr (.inr (0, 0, 33))), some (.inl a1), some (.inl a2), some (.inl a3), some (.inl a4), [] => F_Asked_stillOpen_82 N (L_Asked_stillOpen N n) a1 a2 a3 a4 h
    | _, _, _, _, _, _ => none)
  | false => none
def B_Asked_stillOpen (N : Nat) (n pc : Nat) (lv : ML) (st : List MV) (h : MH) : Option (Int32 × MH) :=
  match Nat.beq pc 5 with
  | true => (match lk lv 0, lk lv 1, lk lv 2, lk lv 3, lk lv 4, st with
    | some (.inr (.inr (0, 0, 33))), some (.inl a1), some (.inl a2), some (.inl a3), some (.inl a4), [] => ((L_Asked_stillOpen N n)) a1 a2 a3 a4 h
    | _, _, _, _, _, _ => none)
  | false => none
set_option maxRecDepth 1000000 in
theorem E_Asked_stillOpen_0 (N : Nat) (n : Nat) (a1 : Int32) (a2 : Int32) (h : MH) : seg (C_Asked_stillOpen N) 6 0 rI T_Asked_stillOpen [0, 5, 82] (fun q lv st h => match Nat.ble 1 q with
    | true => D_Asked_stillOpen N n q lv st h
    | false => B_Asked_stillOpen N n q lv st h) 400 true 0 [(0, .inr (.inr (0, 0, 33))), (1, .inl a1), (2, .inl a2)] [] h = F_Asked_stillOpen_0 N (L_Asked_stillOpen N n) a1 a2 h := (rfl)
set_option maxRecDepth 1000000 in
theorem E_Asked_stillOpen_5 (N : Nat) (n : Nat) (a1 : Int32) (a2 : Int32) (a3 : Int32) (a4 : Int32) (h : MH) : seg (C_Asked_stillOpen N) 6 0 rI T_Asked_stillOpen [0, 5, 82] (fun q lv st h => match Nat.ble 6 q with
    | true => D_Asked_stillOpen N n q lv st h
    | false => B_Asked_stillOpen N n q lv st h) 400 true 5 [(0, .inr (.inr (0, 0, 33))), (1, .inl a1), (2, .inl a2), (3, .inl a3), (4, .inl a4)] [] h = F_Asked_stillOpen_5 N (L_Asked_stillOpen N n) a1 a2 a3 a4 h := (rfl)
set_option maxRecDepth 1000000 in
theorem E_Asked_stillOpen_82 (N : Nat) (n : Nat) (a1 : Int32) (a2 : Int32) (a3 : Int32) (a4 : Int32) (h : MH) : seg (C_Asked_stillOpen N) 6 0 rI T_Asked_stillOpen [0, 5, 82] (fun q lv st h => match Nat.ble 83 q with
    | true => D_Asked_stillOpen N n q lv st h
    | false => B_Asked_stillOpen N n q lv st h) 400 true 82 [(0, .inr (.inr (0, 0, 33))), (1, .inl a1), (2, .inl a2), (3, .inl a3), (4, .inl a4)] [] h = F_Asked_stillOpen_82 N (L_Asked_stillOpen N n) a1 a2 a3 a4 h := (rfl)
set_option maxRecDepth 1000000 in
theorem chk_Asked_stillOpen : chkT 0 false prog_2_method_7_code T_Asked_stillOpen = true := by decide +kernel
theorem mc_Asked_stillOpen : mC 6 = prog_2_method_7_code := by rfl
theorem mx_Asked_stillOpen : mL 6 = 6 ∧ mR 6 = some .int ∧ mK 6 = 1 ∧ (mN 6).cls = cN 0 := by decide +kernel
theorem hD_Asked_stillOpen (N : Nat) {r : Int32 × MH} : ∀ n pc lv st h, D_Asked_stillOpen N n pc lv st h = some r → ∃ lv', (∀ q ∈ lv', q ∈ lv) ∧ seg (C_Asked_stillOpen N) 6 0 rI T_Asked_stillOpen [0, 5, 82] (fun q lv st h => match Nat.ble (pc + 1) q with
    | true => D_Asked_stillOpen N n q lv st h
    | false => B_Asked_stillOpen N n q lv st h) 400 true pc lv' st h = some r := by
  intro n pc lv st h hf
  unfold D_Asked_stillOpen at hf
  split at hf
  · rename_i hb
    have hb := Nat.eq_of_beq_eq_true hb
    subst hb
    split at hf
    · rename_i y0 y1 e0 e1 e2
      exact ⟨_, (sub_cons e0 (sub_cons e1 (sub_cons e2 sub_nil))), (E_Asked_stillOpen_0 N n _ _ h).trans hf⟩
    · cases hf
  · skip
    split at hf
    · rename_i hb
      have hb := Nat.eq_of_beq_eq_true hb
      subst hb
      split at hf
      · rename_i y0 y1 y2 y3 e0 e1 e2 e3 e4
        exact ⟨_, (sub_cons e0 (sub_cons e1 (sub_cons e2 (sub_cons e3 (sub_cons e4 sub_nil))))), (E_Asked_stillOpen_5 N n _ _ _ _ h).trans hf⟩
      · cases hf
    · skip
      split at hf
      · rename_i hb
        have hb := Nat.eq_of_beq_eq_true hb
        subst hb
        split at hf
        · rename_i y0 y1 y2 y3 e0 e1 e2 e3 e4
          exact ⟨_, (sub_cons e0 (sub_cons e1 (sub_cons e2 (sub_cons e3 (sub_cons e4 sub_nil))))), (E_Asked_stillOpen_82 N n _ _ _ _ h).trans hf⟩
        · cases hf
      · skip
        cases hf
theorem hM_Asked_stillOpen (N : Nat) {r : Int32 × MH} : ∀ n pc lv st h, D_Asked_stillOpen N n pc lv st h = some r → pc < 97 := by
  intro n pc lv st h hf
  unfold D_Asked_stillOpen at hf
  split at hf
  · rename_i hb
    rw [Nat.eq_of_beq_eq_true hb]
    decide
  · skip
    split at hf
    · rename_i hb
      rw [Nat.eq_of_beq_eq_true hb]
      decide
    · skip
      split at hf
      · rename_i hb
        rw [Nat.eq_of_beq_eq_true hb]
        decide
      · skip
        cases hf
theorem hB_Asked_stillOpen (N : Nat) {r : Int32 × MH} : ∀ n pc lv st h, B_Asked_stillOpen N n pc lv st h = some r → ∃ k, n = k + 1 ∧ D_Asked_stillOpen N k pc lv st h = some r := by
  intro n pc lv st h hf
  unfold B_Asked_stillOpen at hf
  split at hf
  · rename_i hb
    have hb := Nat.eq_of_beq_eq_true hb
    subst hb
    cases n with
    | zero =>
      split at hf
      · cases hf
      · cases hf
    | succ k =>
      refine ⟨k, rfl, ?_⟩
      exact hf
  · skip
    cases hf
theorem s_Asked_stillOpen {l : Launch} {E : EV} {N : Nat} {as : List MV} {h : MH} {r : Int32 × MH} (hf : w_Asked_stillOpen (f_Asked_stillOpen N) as h = some r) : SndM l E false 0 6 as h (some (.inl r.1)) r.2 := by
  unfold w_Asked_stillOpen at hf
  split at hf
  · obtain ⟨m1, m2, m3, m4⟩ := mx_Asked_stillOpen
    refine snd_of (C := C_Asked_stillOpen N) (own := 0) (rz := 0) (lim := 115) rI_eq m2 m4 pl_6 (TB_in _ cw_6 rfl) ⟨(fun _ => ⟨_, _, _, _, _, _, rfl, rfl, by rw [m4]; rfl⟩), (fun z => by rw [m3] at z; cases z)⟩ (fun z => by cases z) KDL_take rfl rfl (fun z => by cases z) (fun z => by cases z) (fun _ => rfl) (by rw [m1]; exact Nat.le_of_ble_eq_true rfl)
      (fun _ _ _ _ z => by cases z)
      (fun _ _ _ _ z => by cases z)
      (fun _ _ _ _ z => by cases z)
      (fun _ _ _ _ z => by cases z)
      (fun p e R s m args below meth c Q n0 F hret => ?_)
    rw [m1] at F hret ⊢
    rw [mc_Asked_stillOpen] at F hret
    exact cuts_s (K := 400) (M := 97) (D := D_Asked_stillOpen N) (B := B_Asked_stillOpen N) F hret (chkT_ok chk_Asked_stillOpen) (hM_Asked_stillOpen N) (hB_Asked_stillOpen N) (hD_Asked_stillOpen N) N 0 _ _ _ hf
  · cases hf
def T_Asked_stillWithin : List (List (Option RW)) := [
  [some (.iconst 0, 1, [], 0, 0), some (.istore_n 3, 1, [3], 0, 0), some (.iconst 0, 1, [], 0, 0), some (.istore 4, 2, [4], 0, 0), none, some (.iload 4, 2, [4], 0, 0), none, some (.aload_n 0, 1, [0], 0, 0), some (.getfield 15, 3, [0, 1, 0], 0, 0), none, none, some (.if_icmp .ge 84, 3, [95], 0, 0), none, none, some (.iload_n 1, 1, [1], 0, 0), some (.bipush 8, 2, [], 8, 0), none, some (.imul, 1, [], 0, 0), some (.iload 4, 2, [4], 0, 0), none, some (.iadd, 1, [], 0, 0), some (.istore 5, 2, [5], 0, 0), none, some (.iload_n 2, 1, [2], 0, 0), some (.iload 4, 2, [4], 0, 0), none, some (.ishr, 1, [], 0, 0), some (.iconst 1, 1, [], 1, 0), some (.iand, 1, [], 0, 0), some (.ifCond .eq 60, 3, [89], 0, 0), none, none],
  [some (.aload_n 0, 1, [0], 0, 0), some (.getfield 43, 3, [0, 10, 2, 1, 56, 8], 0, 0), none, none, some (.iload 5, 2, [5], 0, 0), none, some (.iaload, 1, [], 0, 0), some (.aload_n 0, 1, [0], 0, 0), some (.getfield 37, 3, [0, 8, 2, 1, 56, 6], 0, 0), none, none, some (.iload 5, 2, [5], 0, 0), none, some (.iaload, 1, [], 0, 0), some (.iadd, 1, [], 0, 0), some (.aload_n 0, 1, [0], 0, 0), some (.getfield 28, 3, [0, 5, 2, 1, 8, 3], 0, 0), none, none, some (.iload 4, 2, [4], 0, 0), none, some (.iaload, 1, [], 0, 0), some (.if_icmp .lt 35, 3, [89], 0, 0), none, none, some (.aload_n 0, 1, [0], 0, 0), some (.getfield 43, 3, [0, 10, 2, 1, 56, 8], 0, 0), none, none, some (.iload 5, 2, [5], 0, 0), none, some (.iaload, 1, [], 0, 0)],
  [some (.aload_n 0, 1, [0], 0, 0), some (.getfield 34, 3, [0, 7, 2, 1, 56, 5], 0, 0), none, none, some (.iload 5, 2, [5], 0, 0), none, some (.iaload, 1, [], 0, 0), some (.iadd, 1, [], 0, 0), some (.aload_n 0, 1, [0], 0, 0), some (.getfield 31, 3, [0, 6, 2, 1, 8, 4], 0, 0), none, none, some (.iload 4, 2, [4], 0, 0), none, some (.iaload, 1, [], 0, 0), some (.if_icmp .gt 10, 3, [89], 0, 0), none, none, some (.iload_n 3, 1, [3], 0, 0), some (.iconst 1, 1, [], 1, 0), some (.iload 4, 2, [4], 0, 0), none, some (.ishl, 1, [], 0, 0), some (.ior, 1, [], 0, 0), some (.istore_n 3, 1, [3], 0, 0), some (.iinc 4 1, 3, [4], 1, 0), none, none, some (.goto (-87), 3, [5], 0, 0), none, none, some (.iload_n 3, 1, [3], 0, 0)],
  [some (.ireturn, 1, [], 0, 0)]]
def F_Asked_stillWithin_5 (N : Nat) (bk : (Int32 → Int32 → Int32 → Int32 → MH → Option (Int32 × MH))) (a1 : Int32) (a2 : Int32) (a3 : Int32) (a4 : Int32) (h : MH) : Option (Int32 × MH) :=
  if (gI h 33 1) ≤ a4 then
  (some (a3, h))
  else
  (let v1 : Int32 := (a1 * 8) + a4
  if ((a2 >>> (a4 &&& 31)) &&& 1) = 0 then
  (let v2 : Int32 := a4 + 1
  bk a1 a2 a3 v2 h)
  else
  (if inB v1 56 = true then
  (if inB v1 56 = true then
  (if inB a4 8 = true then
  (if ((gI h 41 (iN v1)) + (gI h 39 (iN v1))) < (gI h 36 (iN a4)) then
  (let v3 : Int32 := a4 + 1
  bk a1 a2 a3 v3 h)
  else
  (if inB v1 56 = true then
  (if inB v1 56 = true then
  (if inB a4 8 = true then
  (if (gI h 37 (iN a4)) < ((gI h 41 (iN v1)) + (gI h 38 (iN v1))) then
  (let v4 : Int32 := a4 + 1
  bk a1 a2 a3 v4 h)
  else
  (let v5 : Int32 := a3 ||| ((1 : Int32) <<< (a4 &&& 31))
  let v6 : Int32 := a4 + 1
  bk a1 a2 v5 v6 h))
  else none)
  else none)
  else none))
  else none)
  else none)
  else none))
def F_Asked_stillWithin_0 (N : Nat) (bk : (Int32 → Int32 → Int32 → Int32 → MH → Option (Int32 × MH))) (a1 : Int32) (a2 : Int32) (h : MH) : Option (Int32 × MH) :=
  F_Asked_stillWithin_5 N bk a1 a2 0 0 h
def L_Asked_stillWithin (N : Nat) : Nat → (Int32 → Int32 → Int32 → Int32 → MH → Option (Int32 × MH))
  | 0 => fun _ _ _ _ _ => none
  | n + 1 => F_Asked_stillWithin_5 N (L_Asked_stillWithin N n)
def f_Asked_stillWithin (N : Nat) (a1 : Int32) (a2 : Int32) (h : MH) : Option (Int32 × MH) := F_Asked_stillWithin_0 N (L_Asked_stillWithin N N) a1 a2 h
def C_Asked_stillWithin (N : Nat) : MC := (KDL, false, (fun _ => 0), jsB, (fun _ _ _ => none), (fun _ _ _ => none), (fun _ _ _ => none), (fun _ _ _ => none))
def D_Asked_stillWithin (N : Nat) (n pc : Nat) (lv : ML) (st : List MV) (h : MH) : Option (Int32 × MH) :=
  match Nat.beq pc 0 with
  | true => (match lk lv 0, lk lv 1, lk lv 2, st with
    | some (.inr (.inr (0, 0, 33))), some (.inl a1), some (.inl a2), [] => F_Asked_stillWithin_0 N (L_Asked_stillWithin N n) a1 a2 h
    | _, _, _, _ => none)
  | false => match Nat.beq pc 5 with
  | true => (match lk lv 0, lk lv 1, lk lv 2, lk lv 3, lk lv 4, st with
    | some (.inr (.inr (0, 0, 33))), some (.inl a1), some (.inl a2), some (.inl a3), some (.inl a4), [] => F_Asked_stillWithin_5 N (L_Asked_stillWithin N n) a1 a2 a3 a4 h
    | _, _, _, _, _, _ => none)
  | false => none
def B_Asked_stillWithin (N : Nat) (n pc : Nat) (lv : ML) (st : List MV) (h : MH) : Option (Int32 × MH) :=
  match Nat.beq pc 5 with
  | true => (match lk lv 0, lk lv 1, lk lv 2, lk lv 3, lk lv 4, st with
    | some (.inr (.inr (0, 0, 33))), some (.inl a1), some (.inl a2), some (.inl a3), some (.inl a4), [] => ((L_Asked_stillWithin N n)) a1 a2 a3 a4 h
    | _, _, _, _, _, _ => none)
  | false => none
set_option maxRecDepth 1000000 in
theorem E_Asked_stillWithin_0 (N : Nat) (n : Nat) (a1 : Int32) (a2 : Int32) (h : MH) : seg (C_Asked_stillWithin N) 6 0 rI T_Asked_stillWithin [0, 5] (fun q lv st h => match Nat.ble 1 q with
    | true => D_Asked_stillWithin N n q lv st h
    | false => B_Asked_stillWithin N n q lv st h) 400 true 0 [(0, .inr (.inr (0, 0, 33))), (1, .inl a1), (2, .inl a2)] [] h = F_Asked_stillWithin_0 N (L_Asked_stillWithin N n) a1 a2 h := (rfl)
set_option maxRecDepth 1000000 in
theorem E_Asked_stillWithin_5 (N : Nat) (n : Nat) (a1 : Int32) (a2 : Int32) (a3 : Int32) (a4 : Int32) (h : MH) : seg (C_Asked_stillWithin N) 6 0 rI T_Asked_stillWithin [0, 5] (fun q lv st h => match Nat.ble 6 q with
    | true => D_Asked_stillWithin N n q lv st h
    | false => B_Asked_stillWithin N n q lv st h) 400 true 5 [(0, .inr (.inr (0, 0, 33))), (1, .inl a1), (2, .inl a2), (3, .inl a3), (4, .inl a4)] [] h = F_Asked_stillWithin_5 N (L_Asked_stillWithin N n) a1 a2 a3 a4 h := (rfl)
set_option maxRecDepth 1000000 in
theorem chk_Asked_stillWithin : chkT 0 false prog_2_method_8_code T_Asked_stillWithin = true := by decide +kernel
theorem mc_Asked_stillWithin : mC 7 = prog_2_method_8_code := by rfl
theorem mx_Asked_stillWithin : mL 7 = 6 ∧ mR 7 = some .int ∧ mK 7 = 1 ∧ (mN 7).cls = cN 0 := by decide +kernel
theorem hD_Asked_stillWithin (N : Nat) {r : Int32 × MH} : ∀ n pc lv st h, D_Asked_stillWithin N n pc lv st h = some r → ∃ lv', (∀ q ∈ lv', q ∈ lv) ∧ seg (C_Asked_stillWithin N) 6 0 rI T_Asked_stillWithin [0, 5] (fun q lv st h => match Nat.ble (pc + 1) q with
    | true => D_Asked_stillWithin N n q lv st h
    | false => B_Asked_stillWithin N n q lv st h) 400 true pc lv' st h = some r := by
  intro n pc lv st h hf
  unfold D_Asked_stillWithin at hf
  split at hf
  · rename_i hb
    have hb := Nat.eq_of_beq_eq_true hb
    subst hb
    split at hf
    · rename_i y0 y1 e0 e1 e2
      exact ⟨_, (sub_cons e0 (sub_cons e1 (sub_cons e2 sub_nil))), (E_Asked_stillWithin_0 N n _ _ h).trans hf⟩
    · cases hf
  · skip
    split at hf
    · rename_i hb
      have hb := Nat.eq_of_beq_eq_true hb
      subst hb
      split at hf
      · rename_i y0 y1 y2 y3 e0 e1 e2 e3 e4
        exact ⟨_, (sub_cons e0 (sub_cons e1 (sub_cons e2 (sub_cons e3 (sub_cons e4 sub_nil))))), (E_Asked_stillWithin_5 N n _ _ _ _ h).trans hf⟩
      · cases hf
    · skip
      cases hf
theorem hM_Asked_stillWithin (N : Nat) {r : Int32 × MH} : ∀ n pc lv st h, D_Asked_stillWithin N n pc lv st h = some r → pc < 97 := by
  intro n pc lv st h hf
  unfold D_Asked_stillWithin at hf
  split at hf
  · rename_i hb
    rw [Nat.eq_of_beq_eq_true hb]
    decide
  · skip
    split at hf
    · rename_i hb
      rw [Nat.eq_of_beq_eq_true hb]
      decide
    · skip
      cases hf
theorem hB_Asked_stillWithin (N : Nat) {r : Int32 × MH} : ∀ n pc lv st h, B_Asked_stillWithin N n pc lv st h = some r → ∃ k, n = k + 1 ∧ D_Asked_stillWithin N k pc lv st h = some r := by
  intro n pc lv st h hf
  unfold B_Asked_stillWithin at hf
  split at hf
  · rename_i hb
    have hb := Nat.eq_of_beq_eq_true hb
    subst hb
    cases n with
    | zero =>
      split at hf
      · cases hf
      · cases hf
    | succ k =>
      refine ⟨k, rfl, ?_⟩
      exact hf
  · skip
    cases hf
theorem s_Asked_stillWithin {l : Launch} {E : EV} {N : Nat} {as : List MV} {h : MH} {r : Int32 × MH} (hf : w_Asked_stillWithin (f_Asked_stillWithin N) as h = some r) : SndM l E false 0 7 as h (some (.inl r.1)) r.2 := by
  unfold w_Asked_stillWithin at hf
  split at hf
  · obtain ⟨m1, m2, m3, m4⟩ := mx_Asked_stillWithin
    refine snd_of (C := C_Asked_stillWithin N) (own := 0) (rz := 0) (lim := 115) rI_eq m2 m4 pl_7 (TB_in _ cw_7 rfl) ⟨(fun _ => ⟨_, _, _, _, _, _, rfl, rfl, by rw [m4]; rfl⟩), (fun z => by rw [m3] at z; cases z)⟩ (fun z => by cases z) KDL_take rfl rfl (fun z => by cases z) (fun z => by cases z) (fun _ => rfl) (by rw [m1]; exact Nat.le_of_ble_eq_true rfl)
      (fun _ _ _ _ z => by cases z)
      (fun _ _ _ _ z => by cases z)
      (fun _ _ _ _ z => by cases z)
      (fun _ _ _ _ z => by cases z)
      (fun p e R s m args below meth c Q n0 F hret => ?_)
    rw [m1] at F hret ⊢
    rw [mc_Asked_stillWithin] at F hret
    exact cuts_s (K := 400) (M := 97) (D := D_Asked_stillWithin N) (B := B_Asked_stillWithin N) F hret (chkT_ok chk_Asked_stillWithin) (hM_Asked_stillWithin N) (hB_Asked_stillWithin N) (hD_Asked_stillWithin N) N 0 _ _ _ hf
  · cases hf
def T_Few_countFewest : List (List (Option RW)) := [
  [some (.aload_n 0, 1, [0], 0, 0), some (.getfield 18, 3, [1, 2, 2, 1, 2001, 3], 0, 0), none, none, some (.ldc 35, 2, [], 1000000, 0), none, some (.invokestatic 39, 3, [2, 274, 2, 3], 0, 0), none, none, some (.aload_n 0, 1, [0], 0, 0), some (.getfield 18, 3, [1, 2, 2, 1, 2001, 3], 0, 0), none, none, some (.iconst 0, 1, [], 0, 0), some (.iconst 0, 1, [], 0, 0), some (.iastore, 1, [], 0, 0), some (.iload_n 1, 1, [1], 0, 0), some (.istore 4, 2, [4], 0, 0), none, some (.iload 4, 2, [4], 0, 0), none, some (.iload_n 2, 1, [2], 0, 0), some (.if_icmp .ge 83, 3, [105], 0, 0), none, none, some (.iload 4, 2, [4], 0, 0), none, some (.bipush 8, 2, [], 8, 0), none, some (.if_icmp .ge 76, 3, [105], 0, 0), none, none],
  [some (.aload_n 0, 1, [0], 0, 0), some (.getfield 9, 3, [1, 0, 2, 1, 8, 1], 0, 0), none, none, some (.iload 4, 2, [4], 0, 0), none, some (.iaload, 1, [], 0, 0), some (.iconst 0, 1, [], 0, 0), some (.invokestatic 45, 3, [2, 260, 2, 0], 0, 0), none, none, some (.istore 5, 2, [5], 0, 0), none, some (.iload 5, 2, [5], 0, 0), none, some (.iload_n 3, 1, [3], 0, 0), some (.if_icmp .gt 51, 3, [99], 0, 0), none, none, some (.iload 5, 2, [5], 0, 0), none, some (.sipush 2000, 3, [], 2000, 0), none, none, some (.if_icmp .gt 43, 3, [99], 0, 0), none, none, some (.aload_n 0, 1, [0], 0, 0), some (.getfield 18, 3, [1, 2, 2, 1, 2001, 3], 0, 0), none, none, some (.iload 5, 2, [5], 0, 0)],
  [none, some (.aload_n 0, 1, [0], 0, 0), some (.getfield 18, 3, [1, 2, 2, 1, 2001, 3], 0, 0), none, none, some (.iload 5, 2, [5], 0, 0), none, some (.iaload, 1, [], 0, 0), some (.aload_n 0, 1, [0], 0, 0), some (.getfield 18, 3, [1, 2, 2, 1, 2001, 3], 0, 0), none, none, some (.iload 5, 2, [5], 0, 0), none, some (.aload_n 0, 1, [0], 0, 0), some (.getfield 9, 3, [1, 0, 2, 1, 8, 1], 0, 0), none, none, some (.iload 4, 2, [4], 0, 0), none, some (.iaload, 1, [], 0, 0), some (.isub, 1, [], 0, 0), some (.iaload, 1, [], 0, 0), some (.iconst 1, 1, [], 1, 0), some (.iadd, 1, [], 0, 0), some (.invokestatic 51, 3, [2, 261, 2, 0], 0, 0), none, none, some (.iastore, 1, [], 0, 0), some (.iinc 5 1, 3, [5], 1, 0), none, none],
  [some (.goto (-51), 3, [45], 0, 0), none, none, some (.iinc 4 1, 3, [4], 1, 0), none, none, some (.goto (-83), 3, [19], 0, 0), none, none, some (.return_, 1, [], 0, 0)]]
def F_Few_countFewest_45 (N : Nat) (bk : (Int32 → Int32 → Int32 → MH → Option (MH)) × (Int32 → Int32 → Int32 → Int32 → MH → Option (MH))) (a2 : Int32) (a3 : Int32) (a4 : Int32) (a5 : Int32) (h : MH) : Option (MH) :=
  if a3 < a5 then
  (let v4 : Int32 := a4 + 1
  (bk.1) a2 a3 v4 h)
  else
  (if 2000 < a5 then
  (let v5 : Int32 := a4 + 1
  (bk.1) a2 a3 v5 h)
  else
  (if inB a5 2001 = true then
  (if inB a4 8 = true then
  (if inB (a5 - (gI h 51 (iN a4))) 2001 = true then
  ((f_Math_min_II N (gI h 53 (iN a5)) ((gI h 53 (iN (a5 - (gI h 51 (iN a4))))) + 1) h).bind (fun x6 =>
  if inB a5 2001 = true then
  (let h7 : MH := sI x6.2 53 (iN a5) x6.1
  let v8 : Int32 := a5 + 1
  (bk.2) a2 a3 a4 v8 h7)
  else none))
  else none)
  else none)
  else none))
def F_Few_countFewest_19 (N : Nat) (bk : (Int32 → Int32 → Int32 → MH → Option (MH)) × (Int32 → Int32 → Int32 → Int32 → MH → Option (MH))) (a2 : Int32) (a3 : Int32) (a4 : Int32) (h : MH) : Option (MH) :=
  if a2 ≤ a4 then
  (some h)
  else
  (if 8 ≤ a4 then
  (some h)
  else
  (if inB a4 8 = true then
  ((f_Math_max N (gI h 51 (iN a4)) 0 h).bind (fun x3 =>
  F_Few_countFewest_45 N bk a2 a3 a4 x3.1 x3.2))
  else none))
def F_Few_countFewest_0 (N : Nat) (bk : (Int32 → Int32 → Int32 → MH → Option (MH)) × (Int32 → Int32 → Int32 → Int32 → MH → Option (MH))) (a1 : Int32) (a2 : Int32) (a3 : Int32) (h : MH) : Option (MH) :=
  (f_Arrays_fill_AII N 2001 53 1000000 h).bind (fun x1 =>
  if inB 0 2001 = true then
  (let h2 : MH := sI x1 53 (iN 0) 0
  F_Few_countFewest_19 N bk a2 a3 a1 h2)
  else none)
def L_Few_countFewest (N : Nat) : Nat → ((Int32 → Int32 → Int32 → MH → Option (MH)) × (Int32 → Int32 → Int32 → Int32 → MH → Option (MH)))
  | 0 => (fun _ _ _ _ => none, fun _ _ _ _ _ => none)
  | n + 1 => (F_Few_countFewest_19 N (L_Few_countFewest N n), F_Few_countFewest_45 N (L_Few_countFewest N n))
def f_Few_countFewest (N : Nat) (a1 : Int32) (a2 : Int32) (a3 : Int32) (h : MH) : Option (MH) := F_Few_countFewest_0 N (L_Few_countFewest N N) a1 a2 a3 h
def C_Few_countFewest (N : Nat) : MC := (KDL, false, (fun _ => 0), jsB, (fun j => match Nat.beq j 260 with
    | true => w_Math_max (f_Math_max N)
    | false => match Nat.beq j 261 with
    | true => w_Math_min_II (f_Math_min_II N)
    | false => fun _ _ => none), (fun _ _ _ => none), (fun _ _ _ => none), (fun j => match Nat.beq j 274 with
    | true => w_Arrays_fill_AII (f_Arrays_fill_AII N)
    | false => fun _ _ => none))
def D_Few_countFewest (N : Nat) (n pc : Nat) (lv : ML) (st : List MV) (h : MH) : Option (MH) :=
  match Nat.beq pc 0 with
  | true => (match lk lv 0, lk lv 1, lk lv 2, lk lv 3, st with
    | some (.inr (.inr (0, 1, 50))), some (.inl a1), some (.inl a2), some (.inl a3), [] => F_Few_countFewest_0 N (L_Few_countFewest N n) a1 a2 a3 h
    | _, _, _, _, _ => none)
  | false => match Nat.beq pc 19 with
  | true => (match lk lv 0, lk lv 2, lk lv 3, lk lv 4, st with
    | some (.inr (.inr (0, 1, 50))), some (.inl a2), some (.inl a3), some (.inl a4), [] => F_Few_countFewest_19 N (L_Few_countFewest N n) a2 a3 a4 h
    | _, _, _, _, _ => none)
  | false => match Nat.beq pc 45 with
  | true => (match lk lv 0, lk lv 2, lk lv 3, lk lv 4, lk lv 5, st with
    | some (.inr (.inr (0, 1, 50))), some (.inl a2), some (.inl a3), some (.inl a4), some (.inl a5), [] => F_Few_countFewest_45 N (L_Few_countFewest N n) a2 a3 a4 a5 h
    | _, _, _, _, _, _ => none)
  | false => none
def B_Few_countFewest (N : Nat) (n pc : Nat) (lv : ML) (st : List MV) (h : MH) : Option (MH) :=
  match Nat.beq pc 19 with
  | true => (match lk lv 0, lk lv 2, lk lv 3, lk lv 4, st with
    | some (.inr (.inr (0, 1, 50))), some (.inl a2), some (.inl a3), some (.inl a4), [] => ((L_Few_countFewest N n).1) a2 a3 a4 h
    | _, _, _, _, _ => none)
  | false => match Nat.beq pc 45 with
  | true => (match lk lv 0, lk lv 2, lk lv 3, lk lv 4, lk lv 5, st with
    | some (.inr (.inr (0, 1, 50))), some (.inl a2), some (.inl a3), some (.inl a4), some (.inl a5), [] => ((L_Few_countFewest N n).2) a2 a3 a4 a5 h
    | _, _, _, _, _, _ => none)
  | false => none
set_option maxRecDepth 1000000 in
theorem E_Few_countFewest_0 (N : Nat) (n : Nat) (a1 : Int32) (a2 : Int32) (a3 : Int32) (h : MH) : seg (C_Few_countFewest N) 6 0 rV T_Few_countFewest [0, 19, 45] (fun q lv st h => match Nat.ble 1 q with
    | true => D_Few_countFewest N n q lv st h
    | false => B_Few_countFewest N n q lv st h) 400 true 0 [(0, .inr (.inr (0, 1, 50))), (1, .inl a1), (2, .inl a2), (3, .inl a3)] [] h = F_Few_countFewest_0 N (L_Few_countFewest N n) a1 a2 a3 h := (rfl)
set_option maxRecDepth 1000000 in
theorem E_Few_countFewest_19 (N : Nat) (n : Nat) (a2 : Int32) (a3 : Int32) (a4 : Int32) (h : MH) : seg (C_Few_countFewest N) 6 0 rV T_Few_countFewest [0, 19, 45] (fun q lv st h => match Nat.ble 20 q with
    | true => D_Few_countFewest N n q lv st h
    | false => B_Few_countFewest N n q lv st h) 400 true 19 [(0, .inr (.inr (0, 1, 50))), (2, .inl a2), (3, .inl a3), (4, .inl a4)] [] h = F_Few_countFewest_19 N (L_Few_countFewest N n) a2 a3 a4 h := (rfl)
set_option maxRecDepth 1000000 in
theorem E_Few_countFewest_45 (N : Nat) (n : Nat) (a2 : Int32) (a3 : Int32) (a4 : Int32) (a5 : Int32) (h : MH) : seg (C_Few_countFewest N) 6 0 rV T_Few_countFewest [0, 19, 45] (fun q lv st h => match Nat.ble 46 q with
    | true => D_Few_countFewest N n q lv st h
    | false => B_Few_countFewest N n q lv st h) 400 true 45 [(0, .inr (.inr (0, 1, 50))), (2, .inl a2), (3, .inl a3), (4, .inl a4), (5, .inl a5)] [] h = F_Few_countFewest_45 N (L_Few_countFewest N n) a2 a3 a4 a5 h := (rfl)
set_option maxRecDepth 1000000 in
theorem chk_Few_countFewest : chkT 1 false prog_3_method_3_code T_Few_countFewest = true := by decide +kernel
theorem mc_Few_countFewest : mC 10 = prog_3_method_3_code := by rfl
theorem mx_Few_countFewest : mL 10 = 6 ∧ mR 10 = none ∧ mK 10 = 1 ∧ (mN 10).cls = cN 1 := by decide +kernel
theorem hD_Few_countFewest (N : Nat) {r : MH} : ∀ n pc lv st h, D_Few_countFewest N n pc lv st h = some r → ∃ lv', (∀ q ∈ lv', q ∈ lv) ∧ seg (C_Few_countFewest N) 6 0 rV T_Few_countFewest [0, 19, 45] (fun q lv st h => match Nat.ble (pc + 1) q with
    | true => D_Few_countFewest N n q lv st h
    | false => B_Few_countFewest N n q lv st h) 400 true pc lv' st h = some r := by
  intro n pc lv st h hf
  unfold D_Few_countFewest at hf
  split at hf
  · rename_i hb
    have hb := Nat.eq_of_beq_eq_true hb
    subst hb
    split at hf
    · rename_i y0 y1 y2 e0 e1 e2 e3
      exact ⟨_, (sub_cons e0 (sub_cons e1 (sub_cons e2 (sub_cons e3 sub_nil)))), (E_Few_countFewest_0 N n _ _ _ h).trans hf⟩
    · cases hf
  · skip
    split at hf
    · rename_i hb
      have hb := Nat.eq_of_beq_eq_true hb
      subst hb
      split at hf
      · rename_i y0 y1 y2 e0 e1 e2 e3
        exact ⟨_, (sub_cons e0 (sub_cons e1 (sub_cons e2 (sub_cons e3 sub_nil)))), (E_Few_countFewest_19 N n _ _ _ h).trans hf⟩
      · cases hf
    · skip
      split at hf
      · rename_i hb
        have hb := Nat.eq_of_beq_eq_true hb
        subst hb
        split at hf
        · rename_i y0 y1 y2 y3 e0 e1 e2 e3 e4
          exact ⟨_, (sub_cons e0 (sub_cons e1 (sub_cons e2 (sub_cons e3 (sub_cons e4 sub_nil))))), (E_Few_countFewest_45 N n _ _ _ _ h).trans hf⟩
        · cases hf
      · skip
        cases hf
theorem hM_Few_countFewest (N : Nat) {r : MH} : ∀ n pc lv st h, D_Few_countFewest N n pc lv st h = some r → pc < 106 := by
  intro n pc lv st h hf
  unfold D_Few_countFewest at hf
  split at hf
  · rename_i hb
    rw [Nat.eq_of_beq_eq_true hb]
    decide
  · skip
    split at hf
    · rename_i hb
      rw [Nat.eq_of_beq_eq_true hb]
      decide
    · skip
      split at hf
      · rename_i hb
        rw [Nat.eq_of_beq_eq_true hb]
        decide
      · skip
        cases hf
theorem hB_Few_countFewest (N : Nat) {r : MH} : ∀ n pc lv st h, B_Few_countFewest N n pc lv st h = some r → ∃ k, n = k + 1 ∧ D_Few_countFewest N k pc lv st h = some r := by
  intro n pc lv st h hf
  unfold B_Few_countFewest at hf
  split at hf
  · rename_i hb
    have hb := Nat.eq_of_beq_eq_true hb
    subst hb
    cases n with
    | zero =>
      split at hf
      · cases hf
      · cases hf
    | succ k =>
      refine ⟨k, rfl, ?_⟩
      exact hf
  · skip
    split at hf
    · rename_i hb
      have hb := Nat.eq_of_beq_eq_true hb
      subst hb
      cases n with
      | zero =>
        split at hf
        · cases hf
        · cases hf
      | succ k =>
        refine ⟨k, rfl, ?_⟩
        exact hf
    · skip
      cases hf
theorem s_Few_countFewest {l : Launch} {E : EV} {N : Nat} {as : List MV} {h : MH} {r : MH} (hf : w_Few_countFewest (f_Few_countFewest N) as h = some r) : SndM l E false 1 10 as h none r := by
  unfold w_Few_countFewest at hf
  split at hf
  · obtain ⟨m1, m2, m3, m4⟩ := mx_Few_countFewest
    refine snd_of (C := C_Few_countFewest N) (own := 1) (rz := 0) (lim := 115) rV_eq m2 m4 pl_10 (TB_in _ cw_10 rfl) ⟨(fun _ => ⟨_, _, _, _, _, _, rfl, rfl, by rw [m4]; rfl⟩), (fun z => by rw [m3] at z; cases z)⟩ (fun z => by cases z) KDL_take rfl rfl (fun z => by cases z) (fun z => by cases z) (fun _ => rfl) (by rw [m1]; exact Nat.le_of_ble_eq_true rfl)
      (fun j as h x z => by
      dsimp only [C_Few_countFewest] at z
      cases hb : Nat.beq j 260 with
      | true =>
        have hb := Nat.eq_of_beq_eq_true hb
        subst hb
        exact ⟨0, by decide, (fun z => by cases z), s_Math_max z⟩
      | false =>
        rw [hb] at z
        dsimp only at z
        cases hb : Nat.beq j 261 with
        | true =>
          have hb := Nat.eq_of_beq_eq_true hb
          subst hb
          exact ⟨0, by decide, (fun z => by cases z), s_Math_min_II z⟩
        | false =>
          rw [hb] at z
          dsimp only at z
          cases z)
      (fun _ _ _ _ z => by cases z)
      (fun _ _ _ _ z => by cases z)
      (fun j as h x z => by
      dsimp only [C_Few_countFewest] at z
      cases hb : Nat.beq j 274 with
      | true =>
        have hb := Nat.eq_of_beq_eq_true hb
        subst hb
        exact ⟨0, by decide, (fun z => by cases z), s_Arrays_fill_AII z⟩
      | false =>
        rw [hb] at z
        dsimp only at z
        cases z)
      (fun p e R s m args below meth c Q n0 F hret => ?_)
    rw [m1] at F hret ⊢
    rw [mc_Few_countFewest] at F hret
    exact cuts_s (K := 400) (M := 106) (D := D_Few_countFewest N) (B := B_Few_countFewest N) F hret (chkT_ok chk_Few_countFewest) (hM_Few_countFewest N) (hB_Few_countFewest N) (hD_Few_countFewest N) N 0 _ _ _ hf
  · cases hf
def T_Few_share : List (List (Option RW)) := [
  [some (.iload_n 2, 1, [2], 0, 0), some (.istore 4, 2, [4], 0, 0), none, some (.iload_n 3, 1, [3], 0, 0), some (.istore 5, 2, [5], 0, 0), none, some (.iconst 0, 1, [], 0, 0), some (.istore 6, 2, [6], 0, 0), none, some (.iload 6, 2, [6], 0, 0), none, some (.iload_n 1, 1, [1], 0, 0), some (.if_icmp .ge 98, 3, [110], 0, 0), none, none, some (.iload 6, 2, [6], 0, 0), none, some (.bipush 8, 2, [], 8, 0), none, some (.if_icmp .ge 91, 3, [110], 0, 0), none, none, some (.aload_n 0, 1, [0], 0, 0), some (.iload 6, 2, [6], 0, 0), none, some (.iconst 1, 1, [], 1, 0), some (.iadd, 1, [], 0, 0), some (.iload_n 1, 1, [1], 0, 0), some (.iload 4, 2, [4], 0, 0), none, some (.invokevirtual 31, 3, [0, 10, 4, 3], 0, 0), none],
  [none, some (.iconst 0, 1, [], 0, 0), some (.istore 7, 2, [7], 0, 0), none, some (.iload 7, 2, [7], 0, 0), none, some (.iload 5, 2, [5], 0, 0), none, some (.if_icmp .ge 48, 3, [88], 0, 0), none, none, some (.iload 4, 2, [4], 0, 0), none, some (.aload_n 0, 1, [0], 0, 0), some (.getfield 9, 3, [1, 0, 2, 1, 8, 1], 0, 0), none, none, some (.iload 6, 2, [6], 0, 0), none, some (.iaload, 1, [], 0, 0), some (.if_icmp .lt 36, 3, [88], 0, 0), none, none, some (.aload_n 0, 1, [0], 0, 0), some (.getfield 18, 3, [1, 2, 2, 1, 2001, 3], 0, 0), none, none, some (.iload 4, 2, [4], 0, 0), none, some (.iaload, 1, [], 0, 0), some (.iload 5, 2, [5], 0, 0), none],
  [some (.iload 7, 2, [7], 0, 0), none, some (.isub, 1, [], 0, 0), some (.if_icmp .eq 21, 3, [88], 0, 0), none, none, some (.iload 4, 2, [4], 0, 0), none, some (.aload_n 0, 1, [0], 0, 0), some (.getfield 9, 3, [1, 0, 2, 1, 8, 1], 0, 0), none, none, some (.iload 6, 2, [6], 0, 0), none, some (.iaload, 1, [], 0, 0), some (.isub, 1, [], 0, 0), some (.istore 4, 2, [4], 0, 0), none, some (.iinc 7 1, 3, [7], 1, 0), none, none, some (.goto (-49), 3, [36], 0, 0), none, none, some (.aload_n 0, 1, [0], 0, 0), some (.getfield 15, 3, [1, 1, 2, 1, 8, 2], 0, 0), none, none, some (.iload 6, 2, [6], 0, 0), none, some (.iload 7, 2, [7], 0, 0), none],
  [some (.iastore, 1, [], 0, 0), some (.iload 5, 2, [5], 0, 0), none, some (.iload 7, 2, [7], 0, 0), none, some (.isub, 1, [], 0, 0), some (.istore 5, 2, [5], 0, 0), none, some (.iinc 6 1, 3, [6], 1, 0), none, none, some (.goto (-98), 3, [9], 0, 0), none, none, some (.return_, 1, [], 0, 0)]]
def F_Few_share_88 (N : Nat) (bk : (Int32 → Int32 → Int32 → Int32 → MH → Option (MH)) × (Int32 → Int32 → Int32 → Int32 → Int32 → MH → Option (MH))) (a1 : Int32) (a4 : Int32) (a5 : Int32) (a6 : Int32) (a7 : Int32) (h : MH) : Option (MH) :=
  if inB a6 8 = true then
  (let h4 : MH := sI h 52 (iN a6) a7
  let v5 : Int32 := a5 - a7
  let v6 : Int32 := a6 + 1
  (bk.1) a1 a4 v5 v6 h4)
  else none
def F_Few_share_36 (N : Nat) (bk : (Int32 → Int32 → Int32 → Int32 → MH → Option (MH)) × (Int32 → Int32 → Int32 → Int32 → Int32 → MH → Option (MH))) (a1 : Int32) (a4 : Int32) (a5 : Int32) (a6 : Int32) (a7 : Int32) (h : MH) : Option (MH) :=
  if a5 ≤ a7 then
  (F_Few_share_88 N bk a1 a4 a5 a6 a7 h)
  else
  (if inB a6 8 = true then
  (if a4 < (gI h 51 (iN a6)) then
  (F_Few_share_88 N bk a1 a4 a5 a6 a7 h)
  else
  (if inB a4 2001 = true then
  (if (gI h 53 (iN a4)) = (a5 - a7) then
  (F_Few_share_88 N bk a1 a4 a5 a6 a7 h)
  else
  (if inB a6 8 = true then
  (let v2 : Int32 := a4 - (gI h 51 (iN a6))
  let v3 : Int32 := a7 + 1
  (bk.2) a1 v2 a5 a6 v3 h)
  else none))
  else none))
  else none)
def F_Few_share_9 (N : Nat) (bk : (Int32 → Int32 → Int32 → Int32 → MH → Option (MH)) × (Int32 → Int32 → Int32 → Int32 → Int32 → MH → Option (MH))) (a1 : Int32) (a4 : Int32) (a5 : Int32) (a6 : Int32) (h : MH) : Option (MH) :=
  if a1 ≤ a6 then
  (some h)
  else
  (if 8 ≤ a6 then
  (some h)
  else
  ((f_Few_countFewest N (a6 + 1) a1 a4 h).bind (fun x1 =>
  F_Few_share_36 N bk a1 a4 a5 a6 0 x1)))
def F_Few_share_0 (N : Nat) (bk : (Int32 → Int32 → Int32 → Int32 → MH → Option (MH)) × (Int32 → Int32 → Int32 → Int32 → Int32 → MH → Option (MH))) (a1 : Int32) (a2 : Int32) (a3 : Int32) (h : MH) : Option (MH) :=
  F_Few_share_9 N bk a1 a2 a3 0 h
def L_Few_share (N : Nat) : Nat → ((Int32 → Int32 → Int32 → Int32 → MH → Option (MH)) × (Int32 → Int32 → Int32 → Int32 → Int32 → MH → Option (MH)))
  | 0 => (fun _ _ _ _ _ => none, fun _ _ _ _ _ _ => none)
  | n + 1 => (F_Few_share_9 N (L_Few_share N n), F_Few_share_36 N (L_Few_share N n))
def f_Few_share (N : Nat) (a1 : Int32) (a2 : Int32) (a3 : Int32) (h : MH) : Option (MH) := F_Few_share_0 N (L_Few_share N N) a1 a2 a3 h
def C_Few_share (N : Nat) : MC := (KDL, false, (fun _ => 0), jsB, (fun _ _ _ => none), (fun _ _ _ => none), (fun _ _ _ => none), (fun j => match Nat.beq j 10 with
    | true => w_Few_countFewest (f_Few_countFewest N)
    | false => fun _ _ => none))
def D_Few_share (N : Nat) (n pc : Nat) (lv : ML) (st : List MV) (h : MH) : Option (MH) :=
  match Nat.beq pc 0 with
  | true => (match lk lv 0, lk lv 1, lk lv 2, lk lv 3, st with
    | some (.inr (.inr (0, 1, 50))), some (.inl a1), some (.inl a2), some (.inl a3), [] => F_Few_share_0 N (L_Few_share N n) a1 a2 a3 h
    | _, _, _, _, _ => none)
  | false => match Nat.beq pc 9 with
  | true => (match lk lv 0, lk lv 1, lk lv 4, lk lv 5, lk lv 6, st with
    | some (.inr (.inr (0, 1, 50))), some (.inl a1), some (.inl a4), some (.inl a5), some (.inl a6), [] => F_Few_share_9 N (L_Few_share N n) a1 a4 a5 a6 h
    | _, _, _, _, _, _ => none)
  | false => match Nat.beq pc 36 with
  | true => (match lk lv 0, lk lv 1, lk lv 4, lk lv 5, lk lv 6, lk lv 7, st with
    | some (.inr (.inr (0, 1, 50))), some (.inl a1), some (.inl a4), some (.inl a5), some (.inl a6), some (.inl a7), [] => F_Few_share_36 N (L_Few_share N n) a1 a4 a5 a6 a7 h
    | _, _, _, _, _, _, _ => none)
  | false => match Nat.beq pc 88 with
  | true => (match lk lv 0, lk lv 1, lk lv 4, lk lv 5, lk lv 6, lk lv 7, st with
    | some (.inr (.inr (0, 1, 50))), some (.inl a1), some (.inl a4), some (.inl a5), some (.inl a6), some (.inl a7), [] => F_Few_share_88 N (L_Few_share N n) a1 a4 a5 a6 a7 h
    | _, _, _, _, _, _, _ => none)
  | false => none
def B_Few_share (N : Nat) (n pc : Nat) (lv : ML) (st : List MV) (h : MH) : Option (MH) :=
  match Nat.beq pc 9 with
  | true => (match lk lv 0, lk lv 1, lk lv 4, lk lv 5, lk lv 6, st with
    | some (.inr (.inr (0, 1, 50))), some (.inl a1), some (.inl a4), some (.inl a5), some (.inl a6), [] => ((L_Few_share N n).1) a1 a4 a5 a6 h
    | _, _, _, _, _, _ => none)
  | false => match Nat.beq pc 36 with
  | true => (match lk lv 0, lk lv 1, lk lv 4, lk lv 5, lk lv 6, lk lv 7, st with
    | some (.inr (.inr (0, 1, 50))), some (.inl a1), some (.inl a4), some (.inl a5), some (.inl a6), some (.inl a7), [] => ((L_Few_share N n).2) a1 a4 a5 a6 a7 h
    | _, _, _, _, _, _, _ => none)
  | false => none
set_option maxRecDepth 1000000 in
theorem E_Few_share_0 (N : Nat) (n : Nat) (a1 : Int32) (a2 : Int32) (a3 : Int32) (h : MH) : seg (C_Few_share N) 8 0 rV T_Few_share [0, 9, 36, 88] (fun q lv st h => match Nat.ble 1 q with
    | true => D_Few_share N n q lv st h
    | false => B_Few_share N n q lv st h) 400 true 0 [(0, .inr (.inr (0, 1, 50))), (1, .inl a1), (2, .inl a2), (3, .inl a3)] [] h = F_Few_share_0 N (L_Few_share N n) a1 a2 a3 h := (rfl)
set_option maxRecDepth 1000000 in
theorem E_Few_share_9 (N : Nat) (n : Nat) (a1 : Int32) (a4 : Int32) (a5 : Int32) (a6 : Int32) (h : MH) : seg (C_Few_share N) 8 0 rV T_Few_share [0, 9, 36, 88] (fun q lv st h => match Nat.ble 10 q with
    | true => D_Few_share N n q lv st h
    | false => B_Few_share N n q lv st h) 400 true 9 [(0, .inr (.inr (0, 1, 50))), (1, .inl a1), (4, .inl a4), (5, .inl a5), (6, .inl a6)] [] h = F_Few_share_9 N (L_Few_share N n) a1 a4 a5 a6 h := (rfl)
set_option maxRecDepth 1000000 in
theorem E_Few_share_36 (N : Nat) (n : Nat) (a1 : Int32) (a4 : Int32) (a5 : Int32) (a6 : Int32) (a7 : Int32) (h : MH) : seg (C_Few_share N) 8 0 rV T_Few_share [0, 9, 36, 88] (fun q lv st h => match Nat.ble 37 q with
    | true => D_Few_share N n q lv st h
    | false => B_Few_share N n q lv st h) 400 true 36 [(0, .inr (.inr (0, 1, 50))), (1, .inl a1), (4, .inl a4), (5, .inl a5), (6, .inl a6), (7, .inl a7)] [] h = F_Few_share_36 N (L_Few_share N n) a1 a4 a5 a6 a7 h := (rfl)
set_option maxRecDepth 1000000 in
theorem E_Few_share_88 (N : Nat) (n : Nat) (a1 : Int32) (a4 : Int32) (a5 : Int32) (a6 : Int32) (a7 : Int32) (h : MH) : seg (C_Few_share N) 8 0 rV T_Few_share [0, 9, 36, 88] (fun q lv st h => match Nat.ble 89 q with
    | true => D_Few_share N n q lv st h
    | false => B_Few_share N n q lv st h) 400 true 88 [(0, .inr (.inr (0, 1, 50))), (1, .inl a1), (4, .inl a4), (5, .inl a5), (6, .inl a6), (7, .inl a7)] [] h = F_Few_share_88 N (L_Few_share N n) a1 a4 a5 a6 a7 h := (rfl)
set_option maxRecDepth 1000000 in
theorem chk_Few_share : chkT 1 false prog_3_method_4_code T_Few_share = true := by decide +kernel
theorem mc_Few_share : mC 11 = prog_3_method_4_code := by rfl
theorem mx_Few_share : mL 11 = 8 ∧ mR 11 = none ∧ mK 11 = 1 ∧ (mN 11).cls = cN 1 := by decide +kernel
theorem hD_Few_share (N : Nat) {r : MH} : ∀ n pc lv st h, D_Few_share N n pc lv st h = some r → ∃ lv', (∀ q ∈ lv', q ∈ lv) ∧ seg (C_Few_share N) 8 0 rV T_Few_share [0, 9, 36, 88] (fun q lv st h => match Nat.ble (pc + 1) q with
    | true => D_Few_share N n q lv st h
    | false => B_Few_share N n q lv st h) 400 true pc lv' st h = some r := by
  intro n pc lv st h hf
  unfold D_Few_share at hf
  split at hf
  · rename_i hb
    have hb := Nat.eq_of_beq_eq_true hb
    subst hb
    split at hf
    · rename_i y0 y1 y2 e0 e1 e2 e3
      exact ⟨_, (sub_cons e0 (sub_cons e1 (sub_cons e2 (sub_cons e3 sub_nil)))), (E_Few_share_0 N n _ _ _ h).trans hf⟩
    · cases hf
  · skip
    split at hf
    · rename_i hb
      have hb := Nat.eq_of_beq_eq_true hb
      subst hb
      split at hf
      · rename_i y0 y1 y2 y3 e0 e1 e2 e3 e4
        exact ⟨_, (sub_cons e0 (sub_cons e1 (sub_cons e2 (sub_cons e3 (sub_cons e4 sub_nil))))), (E_Few_share_9 N n _ _ _ _ h).trans hf⟩
      · cases hf
    · skip
      split at hf
      · rename_i hb
        have hb := Nat.eq_of_beq_eq_true hb
        subst hb
        split at hf
        · rename_i y0 y1 y2 y3 y4 e0 e1 e2 e3 e4 e5
          exact ⟨_, (sub_cons e0 (sub_cons e1 (sub_cons e2 (sub_cons e3 (sub_cons e4 (sub_cons e5 sub_nil)))))), (E_Few_share_36 N n _ _ _ _ _ h).trans hf⟩
        · cases hf
      · skip
        split at hf
        · rename_i hb
          have hb := Nat.eq_of_beq_eq_true hb
          subst hb
          split at hf
          · rename_i y0 y1 y2 y3 y4 e0 e1 e2 e3 e4 e5
            exact ⟨_, (sub_cons e0 (sub_cons e1 (sub_cons e2 (sub_cons e3 (sub_cons e4 (sub_cons e5 sub_nil)))))), (E_Few_share_88 N n _ _ _ _ _ h).trans hf⟩
          · cases hf
        · skip
          cases hf
theorem hM_Few_share (N : Nat) {r : MH} : ∀ n pc lv st h, D_Few_share N n pc lv st h = some r → pc < 111 := by
  intro n pc lv st h hf
  unfold D_Few_share at hf
  split at hf
  · rename_i hb
    rw [Nat.eq_of_beq_eq_true hb]
    decide
  · skip
    split at hf
    · rename_i hb
      rw [Nat.eq_of_beq_eq_true hb]
      decide
    · skip
      split at hf
      · rename_i hb
        rw [Nat.eq_of_beq_eq_true hb]
        decide
      · skip
        split at hf
        · rename_i hb
          rw [Nat.eq_of_beq_eq_true hb]
          decide
        · skip
          cases hf
theorem hB_Few_share (N : Nat) {r : MH} : ∀ n pc lv st h, B_Few_share N n pc lv st h = some r → ∃ k, n = k + 1 ∧ D_Few_share N k pc lv st h = some r := by
  intro n pc lv st h hf
  unfold B_Few_share at hf
  split at hf
  · rename_i hb
    have hb := Nat.eq_of_beq_eq_true hb
    subst hb
    cases n with
    | zero =>
      split at hf
      · cases hf
      · cases hf
    | succ k =>
      refine ⟨k, rfl, ?_⟩
      exact hf
  · skip
    split at hf
    · rename_i hb
      have hb := Nat.eq_of_beq_eq_true hb
      subst hb
      cases n with
      | zero =>
        split at hf
        · cases hf
        · cases hf
      | succ k =>
        refine ⟨k, rfl, ?_⟩
        exact hf
    · skip
      cases hf
theorem s_Few_share {l : Launch} {E : EV} {N : Nat} {as : List MV} {h : MH} {r : MH} (hf : w_Few_share (f_Few_share N) as h = some r) : SndM l E false 2 11 as h none r := by
  unfold w_Few_share at hf
  split at hf
  · obtain ⟨m1, m2, m3, m4⟩ := mx_Few_share
    refine snd_of (C := C_Few_share N) (own := 1) (rz := 0) (lim := 115) rV_eq m2 m4 pl_11 (TB_in _ cw_11 rfl) ⟨(fun _ => ⟨_, _, _, _, _, _, rfl, rfl, by rw [m4]; rfl⟩), (fun z => by rw [m3] at z; cases z)⟩ (fun z => by cases z) KDL_take rfl rfl (fun z => by cases z) (fun z => by cases z) (fun _ => rfl) (by rw [m1]; exact Nat.le_of_ble_eq_true rfl)
      (fun _ _ _ _ z => by cases z)
      (fun _ _ _ _ z => by cases z)
      (fun _ _ _ _ z => by cases z)
      (fun j as h x z => by
      dsimp only [C_Few_share] at z
      cases hb : Nat.beq j 10 with
      | true =>
        have hb := Nat.eq_of_beq_eq_true hb
        subst hb
        exact ⟨1, by decide, (fun z => by cases z), s_Few_countFewest z⟩
      | false =>
        rw [hb] at z
        dsimp only at z
        cases z)
      (fun p e R s m args below meth c Q n0 F hret => ?_)
    rw [m1] at F hret ⊢
    rw [mc_Few_share] at F hret
    exact cuts_s (K := 400) (M := 111) (D := D_Few_share N) (B := B_Few_share N) F hret (chkT_ok chk_Few_share) (hM_Few_share N) (hB_Few_share N) (hD_Few_share N) N 0 _ _ _ hf
  · cases hf
def T_S_isOneOf : List (List (Option RW)) := [
  [some (.iload_n 0, 1, [0], 0, 0), some (.ifCond .lt 12, 3, [13], 0, 0), none, none, some (.iload_n 0, 1, [0], 0, 0), some (.iload_n 1, 1, [1], 0, 0), some (.if_icmp .ge 7, 3, [13], 0, 0), none, none, some (.iconst 1, 1, [], 1, 0), some (.goto 4, 3, [14], 0, 0), none, none, some (.iconst 0, 1, [], 0, 0), some (.ireturn, 1, [], 0, 0)]]
def f_S_isOneOf (N : Nat) (a0 : Int32) (a1 : Int32) (h : MH) : Option (Int32 × MH) :=
  if a0 < 0 then
  (some (0, h))
  else
  (if a1 ≤ a0 then
  (some (0, h))
  else
  (some (1, h)))
def C_S_isOneOf (N : Nat) : MC := (KDL, false, (fun _ => 0), jsB, (fun _ _ _ => none), (fun _ _ _ => none), (fun _ _ _ => none), (fun _ _ _ => none))
def D_S_isOneOf (N : Nat) (n pc : Nat) (lv : ML) (st : List MV) (h : MH) : Option (Int32 × MH) :=
  match Nat.beq pc 0 with
  | true => (match lk lv 0, lk lv 1, st with
    | some (.inl a0), some (.inl a1), [] => f_S_isOneOf N a0 a1 h
    | _, _, _ => none)
  | false => none
set_option maxRecDepth 1000000 in
theorem E_S_isOneOf_0 (N : Nat) (n : Nat) (a0 : Int32) (a1 : Int32) (h : MH) : seg (C_S_isOneOf N) 2 1 rI T_S_isOneOf [0] (fun q lv st h => match Nat.ble 1 q with
    | true => D_S_isOneOf N n q lv st h
    | false => none) 400 true 0 [(0, .inl a0), (1, .inl a1)] [] h = f_S_isOneOf N a0 a1 h := (rfl)
set_option maxRecDepth 1000000 in
theorem chk_S_isOneOf : chkT 11 false prog_1_method_44_code T_S_isOneOf = true := by decide +kernel
theorem mc_S_isOneOf : mC 151 = prog_1_method_44_code := by rfl
theorem mx_S_isOneOf : mL 151 = 2 ∧ mR 151 = some .boolean ∧ mK 151 = 0 ∧ (mN 151).cls = cN 11 := by decide +kernel
theorem hD_S_isOneOf (N : Nat) {r : Int32 × MH} : ∀ n pc lv st h, D_S_isOneOf N n pc lv st h = some r → ∃ lv', (∀ q ∈ lv', q ∈ lv) ∧ seg (C_S_isOneOf N) 2 1 rI T_S_isOneOf [0] (fun q lv st h => match Nat.ble (pc + 1) q with
    | true => D_S_isOneOf N n q lv st h
    | false => none) 400 true pc lv' st h = some r := by
  intro n pc lv st h hf
  unfold D_S_isOneOf at hf
  split at hf
  · rename_i hb
    have hb := Nat.eq_of_beq_eq_true hb
    subst hb
    split at hf
    · rename_i y0 y1 e0 e1
      exact ⟨_, (sub_cons e0 (sub_cons e1 sub_nil)), (E_S_isOneOf_0 N n _ _ h).trans hf⟩
    · cases hf
  · skip
    cases hf
theorem hM_S_isOneOf (N : Nat) {r : Int32 × MH} : ∀ n pc lv st h, D_S_isOneOf N n pc lv st h = some r → pc < 15 := by
  intro n pc lv st h hf
  unfold D_S_isOneOf at hf
  split at hf
  · rename_i hb
    rw [Nat.eq_of_beq_eq_true hb]
    decide
  · skip
    cases hf
theorem s_S_isOneOf {l : Launch} {E : EV} {N : Nat} {as : List MV} {h : MH} {r : Int32 × MH} (hf : w_S_isOneOf (f_S_isOneOf N) as h = some r) : SndM l E false 0 151 as h (some (.inl r.1)) r.2 := by
  unfold w_S_isOneOf at hf
  split at hf
  · obtain ⟨m1, m2, m3, m4⟩ := mx_S_isOneOf
    refine snd_of (C := C_S_isOneOf N) (own := 11) (rz := 1) (lim := 115) rI_eq m2 m4 pl_151 (TB_in _ cw_151 rfl) ⟨(fun z => by rw [m3] at z; cases z), (fun z => by rw [m3] at z; cases z)⟩ (fun z => by cases z) KDL_take rfl rfl (fun z => by cases z) (fun z => by cases z) (fun _ => rfl) (by rw [m1]; exact Nat.le_of_ble_eq_true rfl)
      (fun _ _ _ _ z => by cases z)
      (fun _ _ _ _ z => by cases z)
      (fun _ _ _ _ z => by cases z)
      (fun _ _ _ _ z => by cases z)
      (fun p e R s m args below meth c Q n0 F hret => ?_)
    rw [m1] at F hret ⊢
    rw [mc_S_isOneOf] at F hret
    exact cuts_s (K := 400) (M := 15) (D := D_S_isOneOf N) (B := fun _ _ _ _ _ => none) F hret (chkT_ok chk_S_isOneOf) (hM_S_isOneOf N) (fun _ _ _ _ _ z => by cases z) (hD_S_isOneOf N) N 0 _ _ _ hf
  · cases hf
def T_Tray_at : List (List (Option RW)) := [
  [some (.iload_n 1, 1, [1], 0, 0), some (.bipush 60, 2, [], 60, 0), none, some (.invokestatic 28, 3, [3, 151, 2, 0], 0, 0), none, none, some (.ifCond .eq 12, 3, [18], 0, 0), none, none, some (.aload_n 0, 1, [0], 0, 0), some (.getfield 9, 3, [9, 0, 2, 2, 60, 1], 0, 0), none, none, some (.iload_n 1, 1, [1], 0, 0), some (.laload, 1, [], 0, 0), some (.goto 6, 3, [21], 0, 0), none, none, some (.ldc2_w 32, 3, [], 0, (-1)), none, none, some (.lreturn, 1, [], 0, 0)]]
def f_Tray_at (N : Nat) (r0 : Nat) (a1 : Int32) (h : MH) : Option (Int64 × MH) :=
  (f_S_isOneOf N a1 60 h).bind (fun x1 =>
  if x1.1 = 0 then
  (some ((-1), x1.2))
  else
  (if inB a1 60 = true then
  (some (gJ x1.2 (r0 + 1) (iN a1), x1.2))
  else none))
def C_Tray_at (N : Nat) : MC := (KDL, false, (fun _ => 0), jsB, (fun j => match Nat.beq j 151 with
    | true => w_S_isOneOf (f_S_isOneOf N)
    | false => fun _ _ => none), (fun _ _ _ => none), (fun _ _ _ => none), (fun _ _ _ => none))
def D_Tray_at (N : Nat) (n pc : Nat) (lv : ML) (st : List MV) (h : MH) : Option (Int64 × MH) :=
  match Nat.beq pc 0 with
  | true => (match lk lv 0, lk lv 1, st with
    | some (.inr (.inr (0, 9, r0))), some (.inl a1), [] => f_Tray_at N r0 a1 h
    | _, _, _ => none)
  | false => none
set_option maxRecDepth 1000000 in
theorem E_Tray_at_0 (N : Nat) (n : Nat) (r0 : Nat) (a1 : Int32) (h : MH) : seg (C_Tray_at N) 2 0 rJ T_Tray_at [0] (fun q lv st h => match Nat.ble 1 q with
    | true => D_Tray_at N n q lv st h
    | false => none) 400 true 0 [(0, .inr (.inr (0, 9, r0))), (1, .inl a1)] [] h = f_Tray_at N r0 a1 h := (rfl)
set_option maxRecDepth 1000000 in
theorem chk_Tray_at : chkT 9 false prog_11_method_5_code T_Tray_at = true := by decide +kernel
theorem mc_Tray_at : mC 87 = prog_11_method_5_code := by rfl
theorem mx_Tray_at : mL 87 = 2 ∧ mR 87 = some .long ∧ mK 87 = 1 ∧ (mN 87).cls = cN 9 := by decide +kernel
theorem hD_Tray_at (N : Nat) {r : Int64 × MH} : ∀ n pc lv st h, D_Tray_at N n pc lv st h = some r → ∃ lv', (∀ q ∈ lv', q ∈ lv) ∧ seg (C_Tray_at N) 2 0 rJ T_Tray_at [0] (fun q lv st h => match Nat.ble (pc + 1) q with
    | true => D_Tray_at N n q lv st h
    | false => none) 400 true pc lv' st h = some r := by
  intro n pc lv st h hf
  unfold D_Tray_at at hf
  split at hf
  · rename_i hb
    have hb := Nat.eq_of_beq_eq_true hb
    subst hb
    split at hf
    · rename_i y0 y1 e0 e1
      exact ⟨_, (sub_cons e0 (sub_cons e1 sub_nil)), (E_Tray_at_0 N n _ _ h).trans hf⟩
    · cases hf
  · skip
    cases hf
theorem hM_Tray_at (N : Nat) {r : Int64 × MH} : ∀ n pc lv st h, D_Tray_at N n pc lv st h = some r → pc < 22 := by
  intro n pc lv st h hf
  unfold D_Tray_at at hf
  split at hf
  · rename_i hb
    rw [Nat.eq_of_beq_eq_true hb]
    decide
  · skip
    cases hf
theorem s_Tray_at {l : Launch} {E : EV} {N : Nat} {as : List MV} {h : MH} {r : Int64 × MH} (hf : w_Tray_at (f_Tray_at N) as h = some r) : SndM l E false 1 87 as h (some (.inr (.inl r.1))) r.2 := by
  unfold w_Tray_at at hf
  split at hf
  · obtain ⟨m1, m2, m3, m4⟩ := mx_Tray_at
    refine snd_of (C := C_Tray_at N) (own := 9) (rz := 0) (lim := 115) rJ_eq m2 m4 pl_87 (TB_in _ cw_87 rfl) ⟨(fun _ => ⟨_, _, _, _, _, _, rfl, rfl, by rw [m4]; rfl⟩), (fun z => by rw [m3] at z; cases z)⟩ (fun z => by cases z) KDL_take rfl rfl (fun z => by cases z) (fun z => by cases z) (fun _ => rfl) (by rw [m1]; exact Nat.le_of_ble_eq_true rfl)
      (fun j as h x z => by
      dsimp only [C_Tray_at] at z
      cases hb : Nat.beq j 151 with
      | true =>
        have hb := Nat.eq_of_beq_eq_true hb
        subst hb
        exact ⟨0, by decide, (fun z => by cases z), s_S_isOneOf z⟩
      | false =>
        rw [hb] at z
        dsimp only at z
        cases z)
      (fun _ _ _ _ z => by cases z)
      (fun _ _ _ _ z => by cases z)
      (fun _ _ _ _ z => by cases z)
      (fun p e R s m args below meth c Q n0 F hret => ?_)
    rw [m1] at F hret ⊢
    rw [mc_Tray_at] at F hret
    exact cuts_s (K := 400) (M := 22) (D := D_Tray_at N) (B := fun _ _ _ _ _ => none) F hret (chkT_ok chk_Tray_at) (hM_Tray_at N) (fun _ _ _ _ _ z => by cases z) (hD_Tray_at N) N 0 _ _ _ hf
  · cases hf
def T_Few_find : List (List (Option RW)) := [
  [some (.iconst 0, 1, [], 0, 0), some (.istore 5, 2, [5], 0, 0), none, some (.iload 5, 2, [5], 0, 0), none, some (.iload_n 2, 1, [2], 0, 0), some (.if_icmp .ge 30, 3, [36], 0, 0), none, none, some (.iload 5, 2, [5], 0, 0), none, some (.bipush 8, 2, [], 8, 0), none, some (.if_icmp .ge 23, 3, [36], 0, 0), none, none, some (.aload_n 0, 1, [0], 0, 0), some (.getfield 9, 3, [1, 0, 2, 1, 8, 1], 0, 0), none, none, some (.iload 5, 2, [5], 0, 0), none, some (.aload_n 1, 1, [1], 0, 0), some (.iload 5, 2, [5], 0, 0), none, some (.invokevirtual 25, 3, [1, 87, 2, 1], 0, 0), none, none, some (.l2i, 1, [], 0, 0), some (.iastore, 1, [], 0, 0), some (.iinc 5 1, 3, [5], 1, 0), none],
  [none, some (.goto (-30), 3, [3], 0, 0), none, none, some (.aload_n 0, 1, [0], 0, 0), some (.iconst 0, 1, [], 0, 0), some (.iload_n 2, 1, [2], 0, 0), some (.iload 4, 2, [4], 0, 0), none, some (.invokevirtual 31, 3, [0, 10, 4, 3], 0, 0), none, none, some (.iload_n 3, 1, [3], 0, 0), some (.istore 5, 2, [5], 0, 0), none, some (.iload_n 3, 1, [3], 0, 0), some (.istore 6, 2, [6], 0, 0), none, some (.iload 6, 2, [6], 0, 0), none, some (.iload 4, 2, [4], 0, 0), none, some (.if_icmp .gt 38, 3, [92], 0, 0), none, none, some (.iload 6, 2, [6], 0, 0), none, some (.sipush 2000, 3, [], 2000, 0), none, none, some (.if_icmp .gt 30, 3, [92], 0, 0), none],
  [none, some (.aload_n 0, 1, [0], 0, 0), some (.getfield 18, 3, [1, 2, 2, 1, 2001, 3], 0, 0), none, none, some (.iload 6, 2, [6], 0, 0), none, some (.iaload, 1, [], 0, 0), some (.aload_n 0, 1, [0], 0, 0), some (.getfield 18, 3, [1, 2, 2, 1, 2001, 3], 0, 0), none, none, some (.iload 5, 2, [5], 0, 0), none, some (.iaload, 1, [], 0, 0), some (.if_icmp .ge 7, 3, [86], 0, 0), none, none, some (.iload 6, 2, [6], 0, 0), none, some (.istore 5, 2, [5], 0, 0), none, some (.iinc 6 1, 3, [6], 1, 0), none, none, some (.goto (-39), 3, [50], 0, 0), none, none, some (.aload_n 0, 1, [0], 0, 0), some (.getfield 18, 3, [1, 2, 2, 1, 2001, 3], 0, 0), none, none],
  [some (.iload 5, 2, [5], 0, 0), none, some (.iaload, 1, [], 0, 0), some (.istore 6, 2, [6], 0, 0), none, some (.iload 6, 2, [6], 0, 0), none, some (.ldc 35, 2, [], 1000000, 0), none, some (.if_icmp .lt 5, 3, [110], 0, 0), none, none, some (.iconst (-1), 1, [], (-1), 0), some (.ireturn, 1, [], 0, 0), some (.aload_n 0, 1, [0], 0, 0), some (.iload_n 2, 1, [2], 0, 0), some (.iload 5, 2, [5], 0, 0), none, some (.iload 6, 2, [6], 0, 0), none, some (.invokevirtual 36, 3, [0, 11, 4, 3], 0, 0), none, none, some (.aload_n 0, 1, [0], 0, 0), some (.iload_n 2, 1, [2], 0, 0), some (.putfield 21, 3, [1, 3, 0], 0, 0), none, none, some (.iload 6, 2, [6], 0, 0), none, some (.ireturn, 1, [], 0, 0)]]
def F_Few_find_92 (N : Nat) (bk : (Nat → Int32 → Int32 → Int32 → Int32 → MH → Option (Int32 × MH)) × (Int32 → Int32 → Int32 → Int32 → MH → Option (Int32 × MH))) (a2 : Int32) (a5 : Int32) (h : MH) : Option (Int32 × MH) :=
  if inB a5 2001 = true then
  (let v7 : Int32 := gI h 53 (iN a5)
  if v7 < 1000000 then
  ((f_Few_share N a2 a5 v7 h).bind (fun x8 =>
  let h9 : MH := sI x8 50 3 a2
  some (v7, h9)))
  else
  (some ((-1), h)))
  else none
def F_Few_find_50 (N : Nat) (bk : (Nat → Int32 → Int32 → Int32 → Int32 → MH → Option (Int32 × MH)) × (Int32 → Int32 → Int32 → Int32 → MH → Option (Int32 × MH))) (a2 : Int32) (a4 : Int32) (a5 : Int32) (a6 : Int32) (h : MH) : Option (Int32 × MH) :=
  if a4 < a6 then
  (F_Few_find_92 N bk a2 a5 h)
  else
  (if 2000 < a6 then
  (F_Few_find_92 N bk a2 a5 h)
  else
  (if inB a6 2001 = true then
  (if inB a5 2001 = true then
  (if (gI h 53 (iN a5)) ≤ (gI h 53 (iN a6)) then
  (let v5 : Int32 := a6 + 1
  (bk.2) a2 a4 a5 v5 h)
  else
  (let v6 : Int32 := a6 + 1
  (bk.2) a2 a4 a6 v6 h))
  else none)
  else none))
def F_Few_find_36 (N : Nat) (bk : (Nat → Int32 → Int32 → Int32 → Int32 → MH → Option (Int32 × MH)) × (Int32 → Int32 → Int32 → Int32 → MH → Option (Int32 × MH))) (a2 : Int32) (a3 : Int32) (a4 : Int32) (h : MH) : Option (Int32 × MH) :=
  (f_Few_countFewest N 0 a2 a4 h).bind (fun x4 =>
  F_Few_find_50 N bk a2 a4 a3 a3 x4)
def F_Few_find_3 (N : Nat) (bk : (Nat → Int32 → Int32 → Int32 → Int32 → MH → Option (Int32 × MH)) × (Int32 → Int32 → Int32 → Int32 → MH → Option (Int32 × MH))) (r1 : Nat) (a2 : Int32) (a3 : Int32) (a4 : Int32) (a5 : Int32) (h : MH) : Option (Int32 × MH) :=
  if a2 ≤ a5 then
  (F_Few_find_36 N bk a2 a3 a4 h)
  else
  (if 8 ≤ a5 then
  (F_Few_find_36 N bk a2 a3 a4 h)
  else
  ((f_Tray_at N r1 a5 h).bind (fun x1 =>
  if inB a5 8 = true then
  (let h2 : MH := sI x1.2 51 (iN a5) (Int64.toInt32 x1.1)
  let v3 : Int32 := a5 + 1
  (bk.1) r1 a2 a3 a4 v3 h2)
  else none)))
def F_Few_find_0 (N : Nat) (bk : (Nat → Int32 → Int32 → Int32 → Int32 → MH → Option (Int32 × MH)) × (Int32 → Int32 → Int32 → Int32 → MH → Option (Int32 × MH))) (r1 : Nat) (a2 : Int32) (a3 : Int32) (a4 : Int32) (h : MH) : Option (Int32 × MH) :=
  F_Few_find_3 N bk r1 a2 a3 a4 0 h
def L_Few_find (N : Nat) : Nat → ((Nat → Int32 → Int32 → Int32 → Int32 → MH → Option (Int32 × MH)) × (Int32 → Int32 → Int32 → Int32 → MH → Option (Int32 × MH)))
  | 0 => (fun _ _ _ _ _ _ => none, fun _ _ _ _ _ => none)
  | n + 1 => (F_Few_find_3 N (L_Few_find N n), F_Few_find_50 N (L_Few_find N n))
def f_Few_find (N : Nat) (r1 : Nat) (a2 : Int32) (a3 : Int32) (a4 : Int32) (h : MH) : Option (Int32 × MH) := F_Few_find_0 N (L_Few_find N N) r1 a2 a3 a4 h
def C_Few_find (N : Nat) : MC := (KDL, false, (fun _ => 0), jsB, (fun _ _ _ => none), (fun j => match Nat.beq j 87 with
    | true => w_Tray_at (f_Tray_at N)
    | false => fun _ _ => none), (fun _ _ _ => none), (fun j => match Nat.beq j 10 with
    | true => w_Few_countFewest (f_Few_countFewest N)
    | false => match Nat.beq j 11 with
    | true => w_Few_share (f_Few_share N)
    | false => fun _ _ => none))
def D_Few_find (N : Nat) (n pc : Nat) (lv : ML) (st : List MV) (h : MH) : Option (Int32 × MH) :=
  match Nat.beq pc 0 with
  | true => (match lk lv 0, lk lv 1, lk lv 2, lk lv 3, lk lv 4, st with
    | some (.inr (.inr (0, 1, 50))), some (.inr (.inr (0, 9, r1))), some (.inl a2), some (.inl a3), some (.inl a4), [] => F_Few_find_0 N (L_Few_find N n) r1 a2 a3 a4 h
    | _, _, _, _, _, _ => none)
  | false => match Nat.beq pc 3 with
  | true => (match lk lv 0, lk lv 1, lk lv 2, lk lv 3, lk lv 4, lk lv 5, st with
    | some (.inr (.inr (0, 1, 50))), some (.inr (.inr (0, 9, r1))), some (.inl a2), some (.inl a3), some (.inl a4), some (.inl a5), [] => F_Few_find_3 N (L_Few_find N n) r1 a2 a3 a4 a5 h
    | _, _, _, _, _, _, _ => none)
  | false => match Nat.beq pc 36 with
  | true => (match lk lv 0, lk lv 2, lk lv 3, lk lv 4, st with
    | some (.inr (.inr (0, 1, 50))), some (.inl a2), some (.inl a3), some (.inl a4), [] => F_Few_find_36 N (L_Few_find N n) a2 a3 a4 h
    | _, _, _, _, _ => none)
  | false => match Nat.beq pc 50 with
  | true => (match lk lv 0, lk lv 2, lk lv 4, lk lv 5, lk lv 6, st with
    | some (.inr (.inr (0, 1, 50))), some (.inl a2), some (.inl a4), some (.inl a5), some (.inl a6), [] => F_Few_find_50 N (L_Few_find N n) a2 a4 a5 a6 h
    | _, _, _, _, _, _ => none)
  | false => match Nat.beq pc 92 with
  | true => (match lk lv 0, lk lv 2, lk lv 5, st with
    | some (.inr (.inr (0, 1, 50))), some (.inl a2), some (.inl a5), [] => F_Few_find_92 N (L_Few_find N n) a2 a5 h
    | _, _, _, _ => none)
  | false => none
def B_Few_find (N : Nat) (n pc : Nat) (lv : ML) (st : List MV) (h : MH) : Option (Int32 × MH) :=
  match Nat.beq pc 3 with
  | true => (match lk lv 0, lk lv 1, lk lv 2, lk lv 3, lk lv 4, lk lv 5, st with
    | some (.inr (.inr (0, 1, 50))), some (.inr (.inr (0, 9, r1))), some (.inl a2), some (.inl a3), some (.inl a4), some (.inl a5), [] => ((L_Few_find N n).1) r1 a2 a3 a4 a5 h
    | _, _, _, _, _, _, _ => none)
  | false => match Nat.beq pc 50 with
  | true => (match lk lv 0, lk lv 2, lk lv 4, lk lv 5, lk lv 6, st with
    | some (.inr (.inr (0, 1, 50))), some (.inl a2), some (.inl a4), some (.inl a5), some (.inl a6), [] => ((L_Few_find N n).2) a2 a4 a5 a6 h
    | _, _, _, _, _, _ => none)
  | false => none
set_option maxRecDepth 1000000 in
theorem E_Few_find_0 (N : Nat) (n : Nat) (r1 : Nat) (a2 : Int32) (a3 : Int32) (a4 : Int32) (h : MH) : seg (C_Few_find N) 7 0 rI T_Few_find [0, 3, 36, 50, 92] (fun q lv st h => match Nat.ble 1 q with
    | true => D_Few_find N n q lv st h
    | false => B_Few_find N n q lv st h) 400 true 0 [(0, .inr (.inr (0, 1, 50))), (1, .inr (.inr (0, 9, r1))), (2, .inl a2), (3, .inl a3), (4, .inl a4)] [] h = F_Few_find_0 N (L_Few_find N n) r1 a2 a3 a4 h := (rfl)
set_option maxRecDepth 1000000 in
theorem E_Few_find_3 (N : Nat) (n : Nat) (r1 : Nat) (a2 : Int32) (a3 : Int32) (a4 : Int32) (a5 : Int32) (h : MH) : seg (C_Few_find N) 7 0 rI T_Few_find [0, 3, 36, 50, 92] (fun q lv st h => match Nat.ble 4 q with
    | true => D_Few_find N n q lv st h
    | false => B_Few_find N n q lv st h) 400 true 3 [(0, .inr (.inr (0, 1, 50))), (1, .inr (.inr (0, 9, r1))), (2, .inl a2), (3, .inl a3), (4, .inl a4), (5, .inl a5)] [] h = F_Few_find_3 N (L_Few_find N n) r1 a2 a3 a4 a5 h := (rfl)
set_option maxRecDepth 1000000 in
theorem E_Few_find_36 (N : Nat) (n : Nat) (a2 : Int32) (a3 : Int32) (a4 : Int32) (h : MH) : seg (C_Few_find N) 7 0 rI T_Few_find [0, 3, 36, 50, 92] (fun q lv st h => match Nat.ble 37 q with
    | true => D_Few_find N n q lv st h
    | false => B_Few_find N n q lv st h) 400 true 36 [(0, .inr (.inr (0, 1, 50))), (2, .inl a2), (3, .inl a3), (4, .inl a4)] [] h = F_Few_find_36 N (L_Few_find N n) a2 a3 a4 h := (rfl)
set_option maxRecDepth 1000000 in
theorem E_Few_find_50 (N : Nat) (n : Nat) (a2 : Int32) (a4 : Int32) (a5 : Int32) (a6 : Int32) (h : MH) : seg (C_Few_find N) 7 0 rI T_Few_find [0, 3, 36, 50, 92] (fun q lv st h => match Nat.ble 51 q with
    | true => D_Few_find N n q lv st h
    | false => B_Few_find N n q lv st h) 400 true 50 [(0, .inr (.inr (0, 1, 50))), (2, .inl a2), (4, .inl a4), (5, .inl a5), (6, .inl a6)] [] h = F_Few_find_50 N (L_Few_find N n) a2 a4 a5 a6 h := (rfl)
set_option maxRecDepth 1000000 in
theorem E_Few_find_92 (N : Nat) (n : Nat) (a2 : Int32) (a5 : Int32) (h : MH) : seg (C_Few_find N) 7 0 rI T_Few_find [0, 3, 36, 50, 92] (fun q lv st h => match Nat.ble 93 q with
    | true => D_Few_find N n q lv st h
    | false => B_Few_find N n q lv st h) 400 true 92 [(0, .inr (.inr (0, 1, 50))), (2, .inl a2), (5, .inl a5)] [] h = F_Few_find_92 N (L_Few_find N n) a2 a5 h := (rfl)
set_option maxRecDepth 1000000 in
theorem chk_Few_find : chkT 1 false prog_3_method_2_code T_Few_find = true := by decide +kernel
theorem mc_Few_find : mC 9 = prog_3_method_2_code := by rfl
theorem mx_Few_find : mL 9 = 7 ∧ mR 9 = some .int ∧ mK 9 = 1 ∧ (mN 9).cls = cN 1 := by decide +kernel
theorem hD_Few_find (N : Nat) {r : Int32 × MH} : ∀ n pc lv st h, D_Few_find N n pc lv st h = some r → ∃ lv', (∀ q ∈ lv', q ∈ lv) ∧ seg (C_Few_find N) 7 0 rI T_Few_find [0, 3, 36, 50, 92] (fun q lv st h => match Nat.ble (pc + 1) q with
    | true => D_Few_find N n q lv st h
    | false => B_Few_find N n q lv st h) 400 true pc lv' st h = some r := by
  intro n pc lv st h hf
  unfold D_Few_find at hf
  split at hf
  · rename_i hb
    have hb := Nat.eq_of_beq_eq_true hb
    subst hb
    split at hf
    · rename_i y0 y1 y2 y3 e0 e1 e2 e3 e4
      exact ⟨_, (sub_cons e0 (sub_cons e1 (sub_cons e2 (sub_cons e3 (sub_cons e4 sub_nil))))), (E_Few_find_0 N n _ _ _ _ h).trans hf⟩
    · cases hf
  · skip
    split at hf
    · rename_i hb
      have hb := Nat.eq_of_beq_eq_true hb
      subst hb
      split at hf
      · rename_i y0 y1 y2 y3 y4 e0 e1 e2 e3 e4 e5
        exact ⟨_, (sub_cons e0 (sub_cons e1 (sub_cons e2 (sub_cons e3 (sub_cons e4 (sub_cons e5 sub_nil)))))), (E_Few_find_3 N n _ _ _ _ _ h).trans hf⟩
      · cases hf
    · skip
      split at hf
      · rename_i hb
        have hb := Nat.eq_of_beq_eq_true hb
        subst hb
        split at hf
        · rename_i y0 y1 y2 e0 e1 e2 e3
          exact ⟨_, (sub_cons e0 (sub_cons e1 (sub_cons e2 (sub_cons e3 sub_nil)))), (E_Few_find_36 N n _ _ _ h).trans hf⟩
        · cases hf
      · skip
        split at hf
        · rename_i hb
          have hb := Nat.eq_of_beq_eq_true hb
          subst hb
          split at hf
          · rename_i y0 y1 y2 y3 e0 e1 e2 e3 e4
            exact ⟨_, (sub_cons e0 (sub_cons e1 (sub_cons e2 (sub_cons e3 (sub_cons e4 sub_nil))))), (E_Few_find_50 N n _ _ _ _ h).trans hf⟩
          · cases hf
        · skip
          split at hf
          · rename_i hb
            have hb := Nat.eq_of_beq_eq_true hb
            subst hb
            split at hf
            · rename_i y0 y1 e0 e1 e2
              exact ⟨_, (sub_cons e0 (sub_cons e1 (sub_cons e2 sub_nil))), (E_Few_find_92 N n _ _ h).trans hf⟩
            · cases hf
          · skip
            cases hf
theorem hM_Few_find (N : Nat) {r : Int32 × MH} : ∀ n pc lv st h, D_Few_find N n pc lv st h = some r → pc < 127 := by
  intro n pc lv st h hf
  unfold D_Few_find at hf
  split at hf
  · rename_i hb
    rw [Nat.eq_of_beq_eq_true hb]
    decide
  · skip
    split at hf
    · rename_i hb
      rw [Nat.eq_of_beq_eq_true hb]
      decide
    · skip
      split at hf
      · rename_i hb
        rw [Nat.eq_of_beq_eq_true hb]
        decide
      · skip
        split at hf
        · rename_i hb
          rw [Nat.eq_of_beq_eq_true hb]
          decide
        · skip
          split at hf
          · rename_i hb
            rw [Nat.eq_of_beq_eq_true hb]
            decide
          · skip
            cases hf
theorem hB_Few_find (N : Nat) {r : Int32 × MH} : ∀ n pc lv st h, B_Few_find N n pc lv st h = some r → ∃ k, n = k + 1 ∧ D_Few_find N k pc lv st h = some r := by
  intro n pc lv st h hf
  unfold B_Few_find at hf
  split at hf
  · rename_i hb
    have hb := Nat.eq_of_beq_eq_true hb
    subst hb
    cases n with
    | zero =>
      split at hf
      · cases hf
      · cases hf
    | succ k =>
      refine ⟨k, rfl, ?_⟩
      exact hf
  · skip
    split at hf
    · rename_i hb
      have hb := Nat.eq_of_beq_eq_true hb
      subst hb
      cases n with
      | zero =>
        split at hf
        · cases hf
        · cases hf
      | succ k =>
        refine ⟨k, rfl, ?_⟩
        exact hf
    · skip
      cases hf
theorem s_Few_find {l : Launch} {E : EV} {N : Nat} {as : List MV} {h : MH} {r : Int32 × MH} (hf : w_Few_find (f_Few_find N) as h = some r) : SndM l E false 3 9 as h (some (.inl r.1)) r.2 := by
  unfold w_Few_find at hf
  split at hf
  · obtain ⟨m1, m2, m3, m4⟩ := mx_Few_find
    refine snd_of (C := C_Few_find N) (own := 1) (rz := 0) (lim := 115) rI_eq m2 m4 pl_9 (TB_in _ cw_9 rfl) ⟨(fun _ => ⟨_, _, _, _, _, _, rfl, rfl, by rw [m4]; rfl⟩), (fun z => by rw [m3] at z; cases z)⟩ (fun z => by cases z) KDL_take rfl rfl (fun z => by cases z) (fun z => by cases z) (fun _ => rfl) (by rw [m1]; exact Nat.le_of_ble_eq_true rfl)
      (fun _ _ _ _ z => by cases z)
      (fun j as h x z => by
      dsimp only [C_Few_find] at z
      cases hb : Nat.beq j 87 with
      | true =>
        have hb := Nat.eq_of_beq_eq_true hb
        subst hb
        exact ⟨1, by decide, (fun z => by cases z), s_Tray_at z⟩
      | false =>
        rw [hb] at z
        dsimp only at z
        cases z)
      (fun _ _ _ _ z => by cases z)
      (fun j as h x z => by
      dsimp only [C_Few_find] at z
      cases hb : Nat.beq j 10 with
      | true =>
        have hb := Nat.eq_of_beq_eq_true hb
        subst hb
        exact ⟨1, by decide, (fun z => by cases z), s_Few_countFewest z⟩
      | false =>
        rw [hb] at z
        dsimp only at z
        cases hb : Nat.beq j 11 with
        | true =>
          have hb := Nat.eq_of_beq_eq_true hb
          subst hb
          exact ⟨2, by decide, (fun z => by cases z), s_Few_share z⟩
        | false =>
          rw [hb] at z
          dsimp only at z
          cases z)
      (fun p e R s m args below meth c Q n0 F hret => ?_)
    rw [m1] at F hret ⊢
    rw [mc_Few_find] at F hret
    exact cuts_s (K := 400) (M := 127) (D := D_Few_find N) (B := B_Few_find N) F hret (chkT_ok chk_Few_find) (hM_Few_find N) (hB_Few_find N) (hD_Few_find N) N 0 _ _ _ hf
  · cases hf
def T_Land_clear : List (List (Option RW)) := [
  [some (.aload_n 0, 1, [0], 0, 0), some (.iconst 0, 1, [], 0, 0), some (.putfield 27, 3, [2, 0, 0], 0, 0), none, none, some (.aload_n 0, 1, [0], 0, 0), some (.iconst 0, 1, [], 0, 0), some (.putfield 31, 3, [2, 1, 0], 0, 0), none, none, some (.aload_n 0, 1, [0], 0, 0), some (.getfield 9, 3, [2, 2, 2, 1, 48, 1], 0, 0), none, none, some (.iconst 0, 1, [], 0, 0), some (.invokestatic 34, 3, [2, 274, 2, 3], 0, 0), none, none, some (.aload_n 0, 1, [0], 0, 0), some (.getfield 15, 3, [2, 3, 2, 1, 6, 2], 0, 0), none, none, some (.iconst 0, 1, [], 0, 0), some (.invokestatic 34, 3, [2, 274, 2, 3], 0, 0), none, none, some (.aload_n 0, 1, [0], 0, 0), some (.getfield 18, 3, [2, 4, 2, 1, 6, 3], 0, 0), none, none, some (.iconst 0, 1, [], 0, 0), some (.invokestatic 34, 3, [2, 274, 2, 3], 0, 0)],
  [none, none, some (.aload_n 0, 1, [0], 0, 0), some (.getfield 21, 3, [2, 5, 2, 1, 6, 4], 0, 0), none, none, some (.bipush 100, 2, [], 100, 0), none, some (.invokestatic 34, 3, [2, 274, 2, 3], 0, 0), none, none, some (.aload_n 0, 1, [0], 0, 0), some (.getfield 24, 3, [2, 6, 2, 1, 6, 5], 0, 0), none, none, some (.bipush 100, 2, [], 100, 0), none, some (.invokestatic 34, 3, [2, 274, 2, 3], 0, 0), none, none, some (.return_, 1, [], 0, 0)]]
def f_Land_clear (N : Nat) (r0 : Nat) (h : MH) : Option (MH) :=
  let h1 : MH := sI h r0 0 0
  let h2 : MH := sI h1 r0 1 0
  (f_Arrays_fill_AII N 48 (r0 + 1) 0 h2).bind (fun x3 =>
  (f_Arrays_fill_AII N 6 (r0 + 2) 0 x3).bind (fun x4 =>
  (f_Arrays_fill_AII N 6 (r0 + 3) 0 x4).bind (fun x5 =>
  (f_Arrays_fill_AII N 6 (r0 + 4) 100 x5).bind (fun x6 =>
  (f_Arrays_fill_AII N 6 (r0 + 5) 100 x6).bind (fun x7 =>
  some x7)))))
def C_Land_clear (N : Nat) : MC := (KDL, false, (fun _ => 0), jsB, (fun _ _ _ => none), (fun _ _ _ => none), (fun _ _ _ => none), (fun j => match Nat.beq j 274 with
    | true => w_Arrays_fill_AII (f_Arrays_fill_AII N)
    | false => fun _ _ => none))
def D_Land_clear (N : Nat) (n pc : Nat) (lv : ML) (st : List MV) (h : MH) : Option (MH) :=
  match Nat.beq pc 0 with
  | true => (match lk lv 0, st with
    | some (.inr (.inr (0, 2, r0))), [] => f_Land_clear N r0 h
    | _, _ => none)
  | false => none
set_option maxRecDepth 1000000 in
theorem E_Land_clear_0 (N : Nat) (n : Nat) (r0 : Nat) (h : MH) : seg (C_Land_clear N) 1 0 rV T_Land_clear [0] (fun q lv st h => match Nat.ble 1 q with
    | true => D_Land_clear N n q lv st h
    | false => none) 400 true 0 [(0, .inr (.inr (0, 2, r0)))] [] h = f_Land_clear N r0 h := (rfl)
set_option maxRecDepth 1000000 in
theorem chk_Land_clear : chkT 2 false prog_4_method_2_code T_Land_clear = true := by decide +kernel
theorem mc_Land_clear : mC 13 = prog_4_method_2_code := by rfl
theorem mx_Land_clear : mL 13 = 1 ∧ mR 13 = none ∧ mK 13 = 1 ∧ (mN 13).cls = cN 2 := by decide +kernel
theorem hD_Land_clear (N : Nat) {r : MH} : ∀ n pc lv st h, D_Land_clear N n pc lv st h = some r → ∃ lv', (∀ q ∈ lv', q ∈ lv) ∧ seg (C_Land_clear N) 1 0 rV T_Land_clear [0] (fun q lv st h => match Nat.ble (pc + 1) q with
    | true => D_Land_clear N n q lv st h
    | false => none) 400 true pc lv' st h = some r := by
  intro n pc lv st h hf
  unfold D_Land_clear at hf
  split at hf
  · rename_i hb
    have hb := Nat.eq_of_beq_eq_true hb
    subst hb
    split at hf
    · rename_i y0 e0
      exact ⟨_, (sub_cons e0 sub_nil), (E_Land_clear_0 N n _ h).trans hf⟩
    · cases hf
  · skip
    cases hf
theorem hM_Land_clear (N : Nat) {r : MH} : ∀ n pc lv st h, D_Land_clear N n pc lv st h = some r → pc < 53 := by
  intro n pc lv st h hf
  unfold D_Land_clear at hf
  split at hf
  · rename_i hb
    rw [Nat.eq_of_beq_eq_true hb]
    decide
  · skip
    cases hf
theorem s_Land_clear {l : Launch} {E : EV} {N : Nat} {as : List MV} {h : MH} {r : MH} (hf : w_Land_clear (f_Land_clear N) as h = some r) : SndM l E false 1 13 as h none r := by
  unfold w_Land_clear at hf
  split at hf
  · obtain ⟨m1, m2, m3, m4⟩ := mx_Land_clear
    refine snd_of (C := C_Land_clear N) (own := 2) (rz := 0) (lim := 115) rV_eq m2 m4 pl_13 (TB_in _ cw_13 rfl) ⟨(fun _ => ⟨_, _, _, _, _, _, rfl, rfl, by rw [m4]; rfl⟩), (fun z => by rw [m3] at z; cases z)⟩ (fun z => by cases z) KDL_take rfl rfl (fun z => by cases z) (fun z => by cases z) (fun _ => rfl) (by rw [m1]; exact Nat.le_of_ble_eq_true rfl)
      (fun _ _ _ _ z => by cases z)
      (fun _ _ _ _ z => by cases z)
      (fun _ _ _ _ z => by cases z)
      (fun j as h x z => by
      dsimp only [C_Land_clear] at z
      cases hb : Nat.beq j 274 with
      | true =>
        have hb := Nat.eq_of_beq_eq_true hb
        subst hb
        exact ⟨0, by decide, (fun z => by cases z), s_Arrays_fill_AII z⟩
      | false =>
        rw [hb] at z
        dsimp only at z
        cases z)
      (fun p e R s m args below meth c Q n0 F hret => ?_)
    rw [m1] at F hret ⊢
    rw [mc_Land_clear] at F hret
    exact cuts_s (K := 400) (M := 53) (D := D_Land_clear N) (B := fun _ _ _ _ _ => none) F hret (chkT_ok chk_Land_clear) (hM_Land_clear N) (fun _ _ _ _ _ z => by cases z) (hD_Land_clear N) N 0 _ _ _ hf
  · cases hf
def T_Land_addCells : List (List (Option RW)) := [
  [some (.iconst 0, 1, [], 0, 0), some (.istore_n 3, 1, [3], 0, 0), some (.iload_n 3, 1, [3], 0, 0), some (.iload_n 1, 1, [1], 0, 0), some (.if_icmp .ge 38, 3, [42], 0, 0), none, none, some (.aload_n 0, 1, [0], 0, 0), some (.getfield 27, 3, [2, 0, 0], 0, 0), none, none, some (.bipush 6, 2, [], 6, 0), none, some (.if_icmp .ge 29, 3, [42], 0, 0), none, none, some (.aload_n 0, 1, [0], 0, 0), some (.getfield 18, 3, [2, 4, 2, 1, 6, 3], 0, 0), none, none, some (.aload_n 0, 1, [0], 0, 0), some (.getfield 27, 3, [2, 0, 0], 0, 0), none, none, some (.iload_n 2, 1, [2], 0, 0), some (.iastore, 1, [], 0, 0), some (.aload_n 0, 1, [0], 0, 0), some (.dup, 1, [], 0, 0), some (.getfield 27, 3, [2, 0, 0], 0, 0), none, none, some (.iconst 1, 1, [], 1, 0)],
  [some (.iadd, 1, [], 0, 0), some (.putfield 27, 3, [2, 0, 0], 0, 0), none, none, some (.iinc 3 1, 3, [3], 1, 0), none, none, some (.goto (-37), 3, [2], 0, 0), none, none, some (.return_, 1, [], 0, 0)]]
def F_Land_addCells_2 (N : Nat) (bk : (Nat → Int32 → Int32 → Int32 → MH → Option (MH))) (r0 : Nat) (a1 : Int32) (a2 : Int32) (a3 : Int32) (h : MH) : Option (MH) :=
  if a1 ≤ a3 then
  (some h)
  else
  (if 6 ≤ (gI h r0 0) then
  (some h)
  else
  (if inB (gI h r0 0) 6 = true then
  (let h1 : MH := sI h (r0 + 3) (iN (gI h r0 0)) a2
  let h2 : MH := sI h1 r0 0 ((gI h1 r0 0) + 1)
  let v3 : Int32 := a3 + 1
  bk r0 a1 a2 v3 h2)
  else none))
def F_Land_addCells_0 (N : Nat) (bk : (Nat → Int32 → Int32 → Int32 → MH → Option (MH))) (r0 : Nat) (a1 : Int32) (a2 : Int32) (h : MH) : Option (MH) :=
  F_Land_addCells_2 N bk r0 a1 a2 0 h
def L_Land_addCells (N : Nat) : Nat → (Nat → Int32 → Int32 → Int32 → MH → Option (MH))
  | 0 => fun _ _ _ _ _ => none
  | n + 1 => F_Land_addCells_2 N (L_Land_addCells N n)
def f_Land_addCells (N : Nat) (r0 : Nat) (a1 : Int32) (a2 : Int32) (h : MH) : Option (MH) := F_Land_addCells_0 N (L_Land_addCells N N) r0 a1 a2 h
def C_Land_addCells (N : Nat) : MC := (KDL, false, (fun _ => 0), jsB, (fun _ _ _ => none), (fun _ _ _ => none), (fun _ _ _ => none), (fun _ _ _ => none))
def D_Land_addCells (N : Nat) (n pc : Nat) (lv : ML) (st : List MV) (h : MH) : Option (MH) :=
  match Nat.beq pc 0 with
  | true => (match lk lv 0, lk lv 1, lk lv 2, st with
    | some (.inr (.inr (0, 2, r0))), some (.inl a1), some (.inl a2), [] => F_Land_addCells_0 N (L_Land_addCells N n) r0 a1 a2 h
    | _, _, _, _ => none)
  | false => match Nat.beq pc 2 with
  | true => (match lk lv 0, lk lv 1, lk lv 2, lk lv 3, st with
    | some (.inr (.inr (0, 2, r0))), some (.inl a1), some (.inl a2), some (.inl a3), [] => F_Land_addCells_2 N (L_Land_addCells N n) r0 a1 a2 a3 h
    | _, _, _, _, _ => none)
  | false => none
def B_Land_addCells (N : Nat) (n pc : Nat) (lv : ML) (st : List MV) (h : MH) : Option (MH) :=
  match Nat.beq pc 2 with
  | true => (match lk lv 0, lk lv 1, lk lv 2, lk lv 3, st with
    | some (.inr (.inr (0, 2, r0))), some (.inl a1), some (.inl a2), some (.inl a3), [] => ((L_Land_addCells N n)) r0 a1 a2 a3 h
    | _, _, _, _, _ => none)
  | false => none
set_option maxRecDepth 1000000 in
theorem E_Land_addCells_0 (N : Nat) (n : Nat) (r0 : Nat) (a1 : Int32) (a2 : Int32) (h : MH) : seg (C_Land_addCells N) 4 0 rV T_Land_addCells [0, 2] (fun q lv st h => match Nat.ble 1 q with
    | true => D_Land_addCells N n q lv st h
    | false => B_Land_addCells N n q lv st h) 400 true 0 [(0, .inr (.inr (0, 2, r0))), (1, .inl a1), (2, .inl a2)] [] h = F_Land_addCells_0 N (L_Land_addCells N n) r0 a1 a2 h := (rfl)
set_option maxRecDepth 1000000 in
theorem E_Land_addCells_2 (N : Nat) (n : Nat) (r0 : Nat) (a1 : Int32) (a2 : Int32) (a3 : Int32) (h : MH) : seg (C_Land_addCells N) 4 0 rV T_Land_addCells [0, 2] (fun q lv st h => match Nat.ble 3 q with
    | true => D_Land_addCells N n q lv st h
    | false => B_Land_addCells N n q lv st h) 400 true 2 [(0, .inr (.inr (0, 2, r0))), (1, .inl a1), (2, .inl a2), (3, .inl a3)] [] h = F_Land_addCells_2 N (L_Land_addCells N n) r0 a1 a2 a3 h := (rfl)
set_option maxRecDepth 1000000 in
theorem chk_Land_addCells : chkT 2 false prog_4_method_3_code T_Land_addCells = true := by decide +kernel
theorem mc_Land_addCells : mC 14 = prog_4_method_3_code := by rfl
theorem mx_Land_addCells : mL 14 = 4 ∧ mR 14 = none ∧ mK 14 = 1 ∧ (mN 14).cls = cN 2 := by decide +kernel
theorem hD_Land_addCells (N : Nat) {r : MH} : ∀ n pc lv st h, D_Land_addCells N n pc lv st h = some r → ∃ lv', (∀ q ∈ lv', q ∈ lv) ∧ seg (C_Land_addCells N) 4 0 rV T_Land_addCells [0, 2] (fun q lv st h => match Nat.ble (pc + 1) q with
    | true => D_Land_addCells N n q lv st h
    | false => B_Land_addCells N n q lv st h) 400 true pc lv' st h = some r := by
  intro n pc lv st h hf
  unfold D_Land_addCells at hf
  split at hf
  · rename_i hb
    have hb := Nat.eq_of_beq_eq_true hb
    subst hb
    split at hf
    · rename_i y0 y1 y2 e0 e1 e2
      exact ⟨_, (sub_cons e0 (sub_cons e1 (sub_cons e2 sub_nil))), (E_Land_addCells_0 N n _ _ _ h).trans hf⟩
    · cases hf
  · skip
    split at hf
    · rename_i hb
      have hb := Nat.eq_of_beq_eq_true hb
      subst hb
      split at hf
      · rename_i y0 y1 y2 y3 e0 e1 e2 e3
        exact ⟨_, (sub_cons e0 (sub_cons e1 (sub_cons e2 (sub_cons e3 sub_nil)))), (E_Land_addCells_2 N n _ _ _ _ h).trans hf⟩
      · cases hf
    · skip
      cases hf
theorem hM_Land_addCells (N : Nat) {r : MH} : ∀ n pc lv st h, D_Land_addCells N n pc lv st h = some r → pc < 43 := by
  intro n pc lv st h hf
  unfold D_Land_addCells at hf
  split at hf
  · rename_i hb
    rw [Nat.eq_of_beq_eq_true hb]
    decide
  · skip
    split at hf
    · rename_i hb
      rw [Nat.eq_of_beq_eq_true hb]
      decide
    · skip
      cases hf
theorem hB_Land_addCells (N : Nat) {r : MH} : ∀ n pc lv st h, B_Land_addCells N n pc lv st h = some r → ∃ k, n = k + 1 ∧ D_Land_addCells N k pc lv st h = some r := by
  intro n pc lv st h hf
  unfold B_Land_addCells at hf
  split at hf
  · rename_i hb
    have hb := Nat.eq_of_beq_eq_true hb
    subst hb
    cases n with
    | zero =>
      split at hf
      · cases hf
      · cases hf
    | succ k =>
      refine ⟨k, rfl, ?_⟩
      exact hf
  · skip
    cases hf
theorem s_Land_addCells {l : Launch} {E : EV} {N : Nat} {as : List MV} {h : MH} {r : MH} (hf : w_Land_addCells (f_Land_addCells N) as h = some r) : SndM l E false 0 14 as h none r := by
  unfold w_Land_addCells at hf
  split at hf
  · obtain ⟨m1, m2, m3, m4⟩ := mx_Land_addCells
    refine snd_of (C := C_Land_addCells N) (own := 2) (rz := 0) (lim := 115) rV_eq m2 m4 pl_14 (TB_in _ cw_14 rfl) ⟨(fun _ => ⟨_, _, _, _, _, _, rfl, rfl, by rw [m4]; rfl⟩), (fun z => by rw [m3] at z; cases z)⟩ (fun z => by cases z) KDL_take rfl rfl (fun z => by cases z) (fun z => by cases z) (fun _ => rfl) (by rw [m1]; exact Nat.le_of_ble_eq_true rfl)
      (fun _ _ _ _ z => by cases z)
      (fun _ _ _ _ z => by cases z)
      (fun _ _ _ _ z => by cases z)
      (fun _ _ _ _ z => by cases z)
      (fun p e R s m args below meth c Q n0 F hret => ?_)
    rw [m1] at F hret ⊢
    rw [mc_Land_addCells] at F hret
    exact cuts_s (K := 400) (M := 43) (D := D_Land_addCells N) (B := B_Land_addCells N) F hret (chkT_ok chk_Land_addCells) (hM_Land_addCells N) (hB_Land_addCells N) (hD_Land_addCells N) N 0 _ _ _ hf
  · cases hf
def T_Land_unit : List (List (Option RW)) := [
  [some (.aload_n 0, 1, [0], 0, 0), some (.getfield 9, 3, [2, 2, 2, 1, 48, 1], 0, 0), none, none, some (.iload_n 1, 1, [1], 0, 0), some (.bipush 8, 2, [], 8, 0), none, some (.imul, 1, [], 0, 0), some (.iload_n 2, 1, [2], 0, 0), some (.iadd, 1, [], 0, 0), some (.iaload, 1, [], 0, 0), some (.ireturn, 1, [], 0, 0)]]
def f_Land_unit (N : Nat) (r0 : Nat) (a1 : Int32) (a2 : Int32) (h : MH) : Option (Int32 × MH) :=
  if inB ((a1 * 8) + a2) 48 = true then
  (some (gI h (r0 + 1) (iN ((a1 * 8) + a2)), h))
  else none
def C_Land_unit (N : Nat) : MC := (KDL, false, (fun _ => 0), jsB, (fun _ _ _ => none), (fun _ _ _ => none), (fun _ _ _ => none), (fun _ _ _ => none))
def D_Land_unit (N : Nat) (n pc : Nat) (lv : ML) (st : List MV) (h : MH) : Option (Int32 × MH) :=
  match Nat.beq pc 0 with
  | true => (match lk lv 0, lk lv 1, lk lv 2, st with
    | some (.inr (.inr (0, 2, r0))), some (.inl a1), some (.inl a2), [] => f_Land_unit N r0 a1 a2 h
    | _, _, _, _ => none)
  | false => none
set_option maxRecDepth 1000000 in
theorem E_Land_unit_0 (N : Nat) (n : Nat) (r0 : Nat) (a1 : Int32) (a2 : Int32) (h : MH) : seg (C_Land_unit N) 3 0 rI T_Land_unit [0] (fun q lv st h => match Nat.ble 1 q with
    | true => D_Land_unit N n q lv st h
    | false => none) 400 true 0 [(0, .inr (.inr (0, 2, r0))), (1, .inl a1), (2, .inl a2)] [] h = f_Land_unit N r0 a1 a2 h := (rfl)
set_option maxRecDepth 1000000 in
theorem chk_Land_unit : chkT 2 false prog_4_method_4_code T_Land_unit = true := by decide +kernel
theorem mc_Land_unit : mC 15 = prog_4_method_4_code := by rfl
theorem mx_Land_unit : mL 15 = 3 ∧ mR 15 = some .int ∧ mK 15 = 1 ∧ (mN 15).cls = cN 2 := by decide +kernel
theorem hD_Land_unit (N : Nat) {r : Int32 × MH} : ∀ n pc lv st h, D_Land_unit N n pc lv st h = some r → ∃ lv', (∀ q ∈ lv', q ∈ lv) ∧ seg (C_Land_unit N) 3 0 rI T_Land_unit [0] (fun q lv st h => match Nat.ble (pc + 1) q with
    | true => D_Land_unit N n q lv st h
    | false => none) 400 true pc lv' st h = some r := by
  intro n pc lv st h hf
  unfold D_Land_unit at hf
  split at hf
  · rename_i hb
    have hb := Nat.eq_of_beq_eq_true hb
    subst hb
    split at hf
    · rename_i y0 y1 y2 e0 e1 e2
      exact ⟨_, (sub_cons e0 (sub_cons e1 (sub_cons e2 sub_nil))), (E_Land_unit_0 N n _ _ _ h).trans hf⟩
    · cases hf
  · skip
    cases hf
theorem hM_Land_unit (N : Nat) {r : Int32 × MH} : ∀ n pc lv st h, D_Land_unit N n pc lv st h = some r → pc < 12 := by
  intro n pc lv st h hf
  unfold D_Land_unit at hf
  split at hf
  · rename_i hb
    rw [Nat.eq_of_beq_eq_true hb]
    decide
  · skip
    cases hf
theorem s_Land_unit {l : Launch} {E : EV} {N : Nat} {as : List MV} {h : MH} {r : Int32 × MH} (hf : w_Land_unit (f_Land_unit N) as h = some r) : SndM l E false 0 15 as h (some (.inl r.1)) r.2 := by
  unfold w_Land_unit at hf
  split at hf
  · obtain ⟨m1, m2, m3, m4⟩ := mx_Land_unit
    refine snd_of (C := C_Land_unit N) (own := 2) (rz := 0) (lim := 115) rI_eq m2 m4 pl_15 (TB_in _ cw_15 rfl) ⟨(fun _ => ⟨_, _, _, _, _, _, rfl, rfl, by rw [m4]; rfl⟩), (fun z => by rw [m3] at z; cases z)⟩ (fun z => by cases z) KDL_take rfl rfl (fun z => by cases z) (fun z => by cases z) (fun _ => rfl) (by rw [m1]; exact Nat.le_of_ble_eq_true rfl)
      (fun _ _ _ _ z => by cases z)
      (fun _ _ _ _ z => by cases z)
      (fun _ _ _ _ z => by cases z)
      (fun _ _ _ _ z => by cases z)
      (fun p e R s m args below meth c Q n0 F hret => ?_)
    rw [m1] at F hret ⊢
    rw [mc_Land_unit] at F hret
    exact cuts_s (K := 400) (M := 12) (D := D_Land_unit N) (B := fun _ _ _ _ _ => none) F hret (chkT_ok chk_Land_unit) (hM_Land_unit N) (fun _ _ _ _ _ z => by cases z) (hD_Land_unit N) N 0 _ _ _ hf
  · cases hf
def T_Land_areNear : List (List (Option RW)) := [
  [some (.aload_n 0, 1, [0], 0, 0), some (.getfield 15, 3, [2, 3, 2, 1, 6, 2], 0, 0), none, none, some (.iload_n 1, 1, [1], 0, 0), some (.iaload, 1, [], 0, 0), some (.iload_n 2, 1, [2], 0, 0), some (.ishr, 1, [], 0, 0), some (.iconst 1, 1, [], 1, 0), some (.iand, 1, [], 0, 0), some (.ifCond .eq 7, 3, [17], 0, 0), none, none, some (.iconst 1, 1, [], 1, 0), some (.goto 4, 3, [18], 0, 0), none, none, some (.iconst 0, 1, [], 0, 0), some (.ireturn, 1, [], 0, 0)]]
def f_Land_areNear (N : Nat) (r0 : Nat) (a1 : Int32) (a2 : Int32) (h : MH) : Option (Int32 × MH) :=
  if inB a1 6 = true then
  (if ((((gI h (r0 + 2) (iN a1))) >>> (a2 &&& 31)) &&& 1) = 0 then
  (some (0, h))
  else
  (some (1, h)))
  else none
def C_Land_areNear (N : Nat) : MC := (KDL, false, (fun _ => 0), jsB, (fun _ _ _ => none), (fun _ _ _ => none), (fun _ _ _ => none), (fun _ _ _ => none))
def D_Land_areNear (N : Nat) (n pc : Nat) (lv : ML) (st : List MV) (h : MH) : Option (Int32 × MH) :=
  match Nat.beq pc 0 with
  | true => (match lk lv 0, lk lv 1, lk lv 2, st with
    | some (.inr (.inr (0, 2, r0))), some (.inl a1), some (.inl a2), [] => f_Land_areNear N r0 a1 a2 h
    | _, _, _, _ => none)
  | false => none
set_option maxRecDepth 1000000 in
theorem E_Land_areNear_0 (N : Nat) (n : Nat) (r0 : Nat) (a1 : Int32) (a2 : Int32) (h : MH) : seg (C_Land_areNear N) 3 1 rI T_Land_areNear [0] (fun q lv st h => match Nat.ble 1 q with
    | true => D_Land_areNear N n q lv st h
    | false => none) 400 true 0 [(0, .inr (.inr (0, 2, r0))), (1, .inl a1), (2, .inl a2)] [] h = f_Land_areNear N r0 a1 a2 h := (rfl)
set_option maxRecDepth 1000000 in
theorem chk_Land_areNear : chkT 2 false prog_4_method_5_code T_Land_areNear = true := by decide +kernel
theorem mc_Land_areNear : mC 16 = prog_4_method_5_code := by rfl
theorem mx_Land_areNear : mL 16 = 3 ∧ mR 16 = some .boolean ∧ mK 16 = 1 ∧ (mN 16).cls = cN 2 := by decide +kernel
theorem hD_Land_areNear (N : Nat) {r : Int32 × MH} : ∀ n pc lv st h, D_Land_areNear N n pc lv st h = some r → ∃ lv', (∀ q ∈ lv', q ∈ lv) ∧ seg (C_Land_areNear N) 3 1 rI T_Land_areNear [0] (fun q lv st h => match Nat.ble (pc + 1) q with
    | true => D_Land_areNear N n q lv st h
    | false => none) 400 true pc lv' st h = some r := by
  intro n pc lv st h hf
  unfold D_Land_areNear at hf
  split at hf
  · rename_i hb
    have hb := Nat.eq_of_beq_eq_true hb
    subst hb
    split at hf
    · rename_i y0 y1 y2 e0 e1 e2
      exact ⟨_, (sub_cons e0 (sub_cons e1 (sub_cons e2 sub_nil))), (E_Land_areNear_0 N n _ _ _ h).trans hf⟩
    · cases hf
  · skip
    cases hf
theorem hM_Land_areNear (N : Nat) {r : Int32 × MH} : ∀ n pc lv st h, D_Land_areNear N n pc lv st h = some r → pc < 19 := by
  intro n pc lv st h hf
  unfold D_Land_areNear at hf
  split at hf
  · rename_i hb
    rw [Nat.eq_of_beq_eq_true hb]
    decide
  · skip
    cases hf
theorem s_Land_areNear {l : Launch} {E : EV} {N : Nat} {as : List MV} {h : MH} {r : Int32 × MH} (hf : w_Land_areNear (f_Land_areNear N) as h = some r) : SndM l E false 0 16 as h (some (.inl r.1)) r.2 := by
  unfold w_Land_areNear at hf
  split at hf
  · obtain ⟨m1, m2, m3, m4⟩ := mx_Land_areNear
    refine snd_of (C := C_Land_areNear N) (own := 2) (rz := 1) (lim := 115) rI_eq m2 m4 pl_16 (TB_in _ cw_16 rfl) ⟨(fun _ => ⟨_, _, _, _, _, _, rfl, rfl, by rw [m4]; rfl⟩), (fun z => by rw [m3] at z; cases z)⟩ (fun z => by cases z) KDL_take rfl rfl (fun z => by cases z) (fun z => by cases z) (fun _ => rfl) (by rw [m1]; exact Nat.le_of_ble_eq_true rfl)
      (fun _ _ _ _ z => by cases z)
      (fun _ _ _ _ z => by cases z)
      (fun _ _ _ _ z => by cases z)
      (fun _ _ _ _ z => by cases z)
      (fun p e R s m args below meth c Q n0 F hret => ?_)
    rw [m1] at F hret ⊢
    rw [mc_Land_areNear] at F hret
    exact cuts_s (K := 400) (M := 19) (D := D_Land_areNear N) (B := fun _ _ _ _ _ => none) F hret (chkT_ok chk_Land_areNear) (hM_Land_areNear N) (fun _ _ _ _ _ z => by cases z) (hD_Land_areNear N) N 0 _ _ _ hf
  · cases hf
def T_Ledger_clear : List (List (Option RW)) := [
  [some (.aload_n 0, 1, [0], 0, 0), some (.iconst 0, 1, [], 0, 0), some (.putfield 27, 3, [3, 5, 0], 0, 0), none, none, some (.aload_n 0, 1, [0], 0, 0), some (.iconst 0, 1, [], 0, 0), some (.putfield 40, 3, [3, 9, 0], 0, 0), none, none, some (.return_, 1, [], 0, 0)]]
def f_Ledger_clear (N : Nat) (h : MH) : Option (MH) :=
  let h1 : MH := sI h 16 5 0
  let h2 : MH := sI h1 16 9 0
  some h2
def C_Ledger_clear (N : Nat) : MC := (KDL, false, (fun _ => 0), jsB, (fun _ _ _ => none), (fun _ _ _ => none), (fun _ _ _ => none), (fun _ _ _ => none))
def D_Ledger_clear (N : Nat) (n pc : Nat) (lv : ML) (st : List MV) (h : MH) : Option (MH) :=
  match Nat.beq pc 0 with
  | true => (match lk lv 0, st with
    | some (.inr (.inr (0, 3, 16))), [] => f_Ledger_clear N h
    | _, _ => none)
  | false => none
set_option maxRecDepth 1000000 in
theorem E_Ledger_clear_0 (N : Nat) (n : Nat) (h : MH) : seg (C_Ledger_clear N) 1 0 rV T_Ledger_clear [0] (fun q lv st h => match Nat.ble 1 q with
    | true => D_Ledger_clear N n q lv st h
    | false => none) 400 true 0 [(0, .inr (.inr (0, 3, 16)))] [] h = f_Ledger_clear N h := (rfl)
set_option maxRecDepth 1000000 in
theorem chk_Ledger_clear : chkT 3 false prog_5_method_2_code T_Ledger_clear = true := by decide +kernel
theorem mc_Ledger_clear : mC 18 = prog_5_method_2_code := by rfl
theorem mx_Ledger_clear : mL 18 = 1 ∧ mR 18 = none ∧ mK 18 = 1 ∧ (mN 18).cls = cN 3 := by decide +kernel
theorem hD_Ledger_clear (N : Nat) {r : MH} : ∀ n pc lv st h, D_Ledger_clear N n pc lv st h = some r → ∃ lv', (∀ q ∈ lv', q ∈ lv) ∧ seg (C_Ledger_clear N) 1 0 rV T_Ledger_clear [0] (fun q lv st h => match Nat.ble (pc + 1) q with
    | true => D_Ledger_clear N n q lv st h
    | false => none) 400 true pc lv' st h = some r := by
  intro n pc lv st h hf
  unfold D_Ledger_clear at hf
  split at hf
  · rename_i hb
    have hb := Nat.eq_of_beq_eq_true hb
    subst hb
    split at hf
    · rename_i e0
      exact ⟨_, (sub_cons e0 sub_nil), (E_Ledger_clear_0 N n h).trans hf⟩
    · cases hf
  · skip
    cases hf
theorem hM_Ledger_clear (N : Nat) {r : MH} : ∀ n pc lv st h, D_Ledger_clear N n pc lv st h = some r → pc < 11 := by
  intro n pc lv st h hf
  unfold D_Ledger_clear at hf
  split at hf
  · rename_i hb
    rw [Nat.eq_of_beq_eq_true hb]
    decide
  · skip
    cases hf
theorem s_Ledger_clear {l : Launch} {E : EV} {N : Nat} {as : List MV} {h : MH} {r : MH} (hf : w_Ledger_clear (f_Ledger_clear N) as h = some r) : SndM l E false 0 18 as h none r := by
  unfold w_Ledger_clear at hf
  split at hf
  · obtain ⟨m1, m2, m3, m4⟩ := mx_Ledger_clear
    refine snd_of (C := C_Ledger_clear N) (own := 3) (rz := 0) (lim := 115) rV_eq m2 m4 pl_18 (TB_in _ cw_18 rfl) ⟨(fun _ => ⟨_, _, _, _, _, _, rfl, rfl, by rw [m4]; rfl⟩), (fun z => by rw [m3] at z; cases z)⟩ (fun z => by cases z) KDL_take rfl rfl (fun z => by cases z) (fun z => by cases z) (fun _ => rfl) (by rw [m1]; exact Nat.le_of_ble_eq_true rfl)
      (fun _ _ _ _ z => by cases z)
      (fun _ _ _ _ z => by cases z)
      (fun _ _ _ _ z => by cases z)
      (fun _ _ _ _ z => by cases z)
      (fun p e R s m args below meth c Q n0 F hret => ?_)
    rw [m1] at F hret ⊢
    rw [mc_Ledger_clear] at F hret
    exact cuts_s (K := 400) (M := 11) (D := D_Ledger_clear N) (B := fun _ _ _ _ _ => none) F hret (chkT_ok chk_Ledger_clear) (hM_Ledger_clear N) (fun _ _ _ _ _ z => by cases z) (hD_Ledger_clear N) N 0 _ _ _ hf
  · cases hf
def T_Ledger_addRow : List (List (Option RW)) := [
  [some (.aload_n 0, 1, [0], 0, 0), some (.getfield 27, 3, [3, 5, 0], 0, 0), none, none, some (.sipush 160, 3, [], 160, 0), none, none, some (.if_icmp .ge 71, 3, [78], 0, 0), none, none, some (.aload_n 0, 1, [0], 0, 0), some (.getfield 9, 3, [3, 0, 2, 1, 160, 1], 0, 0), none, none, some (.aload_n 0, 1, [0], 0, 0), some (.getfield 27, 3, [3, 5, 0], 0, 0), none, none, some (.iload_n 1, 1, [1], 0, 0), some (.iastore, 1, [], 0, 0), some (.aload_n 0, 1, [0], 0, 0), some (.getfield 15, 3, [3, 1, 2, 1, 160, 2], 0, 0), none, none, some (.aload_n 0, 1, [0], 0, 0), some (.getfield 27, 3, [3, 5, 0], 0, 0), none, none, some (.iload_n 2, 1, [2], 0, 0), some (.iastore, 1, [], 0, 0), some (.aload_n 0, 1, [0], 0, 0), some (.getfield 18, 3, [3, 2, 2, 1, 160, 3], 0, 0)],
  [none, none, some (.aload_n 0, 1, [0], 0, 0), some (.getfield 27, 3, [3, 5, 0], 0, 0), none, none, some (.iload_n 3, 1, [3], 0, 0), some (.iastore, 1, [], 0, 0), some (.aload_n 0, 1, [0], 0, 0), some (.getfield 21, 3, [3, 3, 2, 1, 160, 4], 0, 0), none, none, some (.aload_n 0, 1, [0], 0, 0), some (.getfield 27, 3, [3, 5, 0], 0, 0), none, none, some (.iload 4, 2, [4], 0, 0), none, some (.iastore, 1, [], 0, 0), some (.aload_n 0, 1, [0], 0, 0), some (.getfield 24, 3, [3, 4, 2, 1, 160, 5], 0, 0), none, none, some (.aload_n 0, 1, [0], 0, 0), some (.getfield 27, 3, [3, 5, 0], 0, 0), none, none, some (.iload 5, 2, [5], 0, 0), none, some (.iastore, 1, [], 0, 0), some (.aload_n 0, 1, [0], 0, 0), some (.dup, 1, [], 0, 0)],
  [some (.getfield 27, 3, [3, 5, 0], 0, 0), none, none, some (.iconst 1, 1, [], 1, 0), some (.iadd, 1, [], 0, 0), some (.putfield 27, 3, [3, 5, 0], 0, 0), none, none, some (.aload_n 0, 1, [0], 0, 0), some (.iload 5, 2, [5], 0, 0), none, some (.putfield 43, 3, [3, 10, 0], 0, 0), none, none, some (.return_, 1, [], 0, 0)]]
def f_Ledger_addRow (N : Nat) (a1 : Int32) (a2 : Int32) (a3 : Int32) (a4 : Int32) (a5 : Int32) (h : MH) : Option (MH) :=
  if 160 ≤ (gI h 16 5) then
  (some h)
  else
  (if inB (gI h 16 5) 160 = true then
  (let h1 : MH := sI h 17 (iN (gI h 16 5)) a1
  if inB (gI h1 16 5) 160 = true then
  (let h2 : MH := sI h1 18 (iN (gI h1 16 5)) a2
  if inB (gI h2 16 5) 160 = true then
  (let h3 : MH := sI h2 19 (iN (gI h2 16 5)) a3
  if inB (gI h3 16 5) 160 = true then
  (let h4 : MH := sI h3 20 (iN (gI h3 16 5)) a4
  if inB (gI h4 16 5) 160 = true then
  (let h5 : MH := sI h4 21 (iN (gI h4 16 5)) a5
  let h6 : MH := sI h5 16 5 ((gI h5 16 5) + 1)
  let h7 : MH := sI h6 16 10 a5
  some h7)
  else none)
  else none)
  else none)
  else none)
  else none)
def C_Ledger_addRow (N : Nat) : MC := (KDL, false, (fun _ => 0), jsB, (fun _ _ _ => none), (fun _ _ _ => none), (fun _ _ _ => none), (fun _ _ _ => none))
def D_Ledger_addRow (N : Nat) (n pc : Nat) (lv : ML) (st : List MV) (h : MH) : Option (MH) :=
  match Nat.beq pc 0 with
  | true => (match lk lv 0, lk lv 1, lk lv 2, lk lv 3, lk lv 4, lk lv 5, st with
    | some (.inr (.inr (0, 3, 16))), some (.inl a1), some (.inl a2), some (.inl a3), some (.inl a4), some (.inl a5), [] => f_Ledger_addRow N a1 a2 a3 a4 a5 h
    | _, _, _, _, _, _, _ => none)
  | false => none
set_option maxRecDepth 1000000 in
theorem E_Ledger_addRow_0 (N : Nat) (n : Nat) (a1 : Int32) (a2 : Int32) (a3 : Int32) (a4 : Int32) (a5 : Int32) (h : MH) : seg (C_Ledger_addRow N) 6 0 rV T_Ledger_addRow [0] (fun q lv st h => match Nat.ble 1 q with
    | true => D_Ledger_addRow N n q lv st h
    | false => none) 400 true 0 [(0, .inr (.inr (0, 3, 16))), (1, .inl a1), (2, .inl a2), (3, .inl a3), (4, .inl a4), (5, .inl a5)] [] h = f_Ledger_addRow N a1 a2 a3 a4 a5 h := (rfl)
set_option maxRecDepth 1000000 in
theorem chk_Ledger_addRow : chkT 3 false prog_5_method_3_code T_Ledger_addRow = true := by decide +kernel
theorem mc_Ledger_addRow : mC 19 = prog_5_method_3_code := by rfl
theorem mx_Ledger_addRow : mL 19 = 6 ∧ mR 19 = none ∧ mK 19 = 1 ∧ (mN 19).cls = cN 3 := by decide +kernel
theorem hD_Ledger_addRow (N : Nat) {r : MH} : ∀ n pc lv st h, D_Ledger_addRow N n pc lv st h = some r → ∃ lv', (∀ q ∈ lv', q ∈ lv) ∧ seg (C_Ledger_addRow N) 6 0 rV T_Ledger_addRow [0] (fun q lv st h => match Nat.ble (pc + 1) q with
    | true => D_Ledger_addRow N n q lv st h
    | false => none) 400 true pc lv' st h = some r := by
  intro n pc lv st h hf
  unfold D_Ledger_addRow at hf
  split at hf
  · rename_i hb
    have hb := Nat.eq_of_beq_eq_true hb
    subst hb
    split at hf
    · rename_i y0 y1 y2 y3 y4 e0 e1 e2 e3 e4 e5
      exact ⟨_, (sub_cons e0 (sub_cons e1 (sub_cons e2 (sub_cons e3 (sub_cons e4 (sub_cons e5 sub_nil)))))), (E_Ledger_addRow_0 N n _ _ _ _ _ h).trans hf⟩
    · cases hf
  · skip
    cases hf
theorem hM_Ledger_addRow (N : Nat) {r : MH} : ∀ n pc lv st h, D_Ledger_addRow N n pc lv st h = some r → pc < 79 := by
  intro n pc lv st h hf
  unfold D_Ledger_addRow at hf
  split at hf
  · rename_i hb
    rw [Nat.eq_of_beq_eq_true hb]
    decide
  · skip
    cases hf
theorem s_Ledger_addRow {l : Launch} {E : EV} {N : Nat} {as : List MV} {h : MH} {r : MH} (hf : w_Ledger_addRow (f_Ledger_addRow N) as h = some r) : SndM l E false 0 19 as h none r := by
  unfold w_Ledger_addRow at hf
  split at hf
  · obtain ⟨m1, m2, m3, m4⟩ := mx_Ledger_addRow
    refine snd_of (C := C_Ledger_addRow N) (own := 3) (rz := 0) (lim := 115) rV_eq m2 m4 pl_19 (TB_in _ cw_19 rfl) ⟨(fun _ => ⟨_, _, _, _, _, _, rfl, rfl, by rw [m4]; rfl⟩), (fun z => by rw [m3] at z; cases z)⟩ (fun z => by cases z) KDL_take rfl rfl (fun z => by cases z) (fun z => by cases z) (fun _ => rfl) (by rw [m1]; exact Nat.le_of_ble_eq_true rfl)
      (fun _ _ _ _ z => by cases z)
      (fun _ _ _ _ z => by cases z)
      (fun _ _ _ _ z => by cases z)
      (fun _ _ _ _ z => by cases z)
      (fun p e R s m args below meth c Q n0 F hret => ?_)
    rw [m1] at F hret ⊢
    rw [mc_Ledger_addRow] at F hret
    exact cuts_s (K := 400) (M := 79) (D := D_Ledger_addRow N) (B := fun _ _ _ _ _ => none) F hret (chkT_ok chk_Ledger_addRow) (hM_Ledger_addRow N) (fun _ _ _ _ _ z => by cases z) (hD_Ledger_addRow N) N 0 _ _ _ hf
  · cases hf
def T_Ledger_addOffset : List (List (Option RW)) := [
  [some (.aload_n 0, 1, [0], 0, 0), some (.getfield 40, 3, [3, 9, 0], 0, 0), none, none, some (.bipush 20, 2, [], 20, 0), none, some (.if_icmp .ge 43, 3, [49], 0, 0), none, none, some (.aload_n 0, 1, [0], 0, 0), some (.getfield 31, 3, [3, 6, 2, 1, 20, 6], 0, 0), none, none, some (.aload_n 0, 1, [0], 0, 0), some (.getfield 40, 3, [3, 9, 0], 0, 0), none, none, some (.iload_n 1, 1, [1], 0, 0), some (.iastore, 1, [], 0, 0), some (.aload_n 0, 1, [0], 0, 0), some (.getfield 34, 3, [3, 7, 2, 1, 20, 7], 0, 0), none, none, some (.aload_n 0, 1, [0], 0, 0), some (.getfield 40, 3, [3, 9, 0], 0, 0), none, none, some (.iload_n 2, 1, [2], 0, 0), some (.iastore, 1, [], 0, 0), some (.aload_n 0, 1, [0], 0, 0), some (.getfield 37, 3, [3, 8, 2, 1, 20, 8], 0, 0), none],
  [none, some (.aload_n 0, 1, [0], 0, 0), some (.getfield 40, 3, [3, 9, 0], 0, 0), none, none, some (.iload_n 3, 1, [3], 0, 0), some (.iastore, 1, [], 0, 0), some (.aload_n 0, 1, [0], 0, 0), some (.dup, 1, [], 0, 0), some (.getfield 40, 3, [3, 9, 0], 0, 0), none, none, some (.iconst 1, 1, [], 1, 0), some (.iadd, 1, [], 0, 0), some (.putfield 40, 3, [3, 9, 0], 0, 0), none, none, some (.return_, 1, [], 0, 0)]]
def f_Ledger_addOffset (N : Nat) (a1 : Int32) (a2 : Int32) (a3 : Int32) (h : MH) : Option (MH) :=
  if 20 ≤ (gI h 16 9) then
  (some h)
  else
  (if inB (gI h 16 9) 20 = true then
  (let h1 : MH := sI h 22 (iN (gI h 16 9)) a1
  if inB (gI h1 16 9) 20 = true then
  (let h2 : MH := sI h1 23 (iN (gI h1 16 9)) a2
  if inB (gI h2 16 9) 20 = true then
  (let h3 : MH := sI h2 24 (iN (gI h2 16 9)) a3
  let h4 : MH := sI h3 16 9 ((gI h3 16 9) + 1)
  some h4)
  else none)
  else none)
  else none)
def C_Ledger_addOffset (N : Nat) : MC := (KDL, false, (fun _ => 0), jsB, (fun _ _ _ => none), (fun _ _ _ => none), (fun _ _ _ => none), (fun _ _ _ => none))
def D_Ledger_addOffset (N : Nat) (n pc : Nat) (lv : ML) (st : List MV) (h : MH) : Option (MH) :=
  match Nat.beq pc 0 with
  | true => (match lk lv 0, lk lv 1, lk lv 2, lk lv 3, st with
    | some (.inr (.inr (0, 3, 16))), some (.inl a1), some (.inl a2), some (.inl a3), [] => f_Ledger_addOffset N a1 a2 a3 h
    | _, _, _, _, _ => none)
  | false => none
set_option maxRecDepth 1000000 in
theorem E_Ledger_addOffset_0 (N : Nat) (n : Nat) (a1 : Int32) (a2 : Int32) (a3 : Int32) (h : MH) : seg (C_Ledger_addOffset N) 4 0 rV T_Ledger_addOffset [0] (fun q lv st h => match Nat.ble 1 q with
    | true => D_Ledger_addOffset N n q lv st h
    | false => none) 400 true 0 [(0, .inr (.inr (0, 3, 16))), (1, .inl a1), (2, .inl a2), (3, .inl a3)] [] h = f_Ledger_addOffset N a1 a2 a3 h := (rfl)
set_option maxRecDepth 1000000 in
theorem chk_Ledger_addOffset : chkT 3 false prog_5_method_4_code T_Ledger_addOffset = true := by decide +kernel
theorem mc_Ledger_addOffset : mC 20 = prog_5_method_4_code := by rfl
theorem mx_Ledger_addOffset : mL 20 = 4 ∧ mR 20 = none ∧ mK 20 = 1 ∧ (mN 20).cls = cN 3 := by decide +kernel
theorem hD_Ledger_addOffset (N : Nat) {r : MH} : ∀ n pc lv st h, D_Ledger_addOffset N n pc lv st h = some r → ∃ lv', (∀ q ∈ lv', q ∈ lv) ∧ seg (C_Ledger_addOffset N) 4 0 rV T_Ledger_addOffset [0] (fun q lv st h => match Nat.ble (pc + 1) q with
    | true => D_Ledger_addOffset N n q lv st h
    | false => none) 400 true pc lv' st h = some r := by
  intro n pc lv st h hf
  unfold D_Ledger_addOffset at hf
  split at hf
  · rename_i hb
    have hb := Nat.eq_of_beq_eq_true hb
    subst hb
    split at hf
    · rename_i y0 y1 y2 e0 e1 e2 e3
      exact ⟨_, (sub_cons e0 (sub_cons e1 (sub_cons e2 (sub_cons e3 sub_nil)))), (E_Ledger_addOffset_0 N n _ _ _ h).trans hf⟩
    · cases hf
  · skip
    cases hf
theorem hM_Ledger_addOffset (N : Nat) {r : MH} : ∀ n pc lv st h, D_Ledger_addOffset N n pc lv st h = some r → pc < 50 := by
  intro n pc lv st h hf
  unfold D_Ledger_addOffset at hf
  split at hf
  · rename_i hb
    rw [Nat.eq_of_beq_eq_true hb]
    decide
  · skip
    cases hf
theorem s_Ledger_addOffset {l : Launch} {E : EV} {N : Nat} {as : List MV} {h : MH} {r : MH} (hf : w_Ledger_addOffset (f_Ledger_addOffset N) as h = some r) : SndM l E false 0 20 as h none r := by
  unfold w_Ledger_addOffset at hf
  split at hf
  · obtain ⟨m1, m2, m3, m4⟩ := mx_Ledger_addOffset
    refine snd_of (C := C_Ledger_addOffset N) (own := 3) (rz := 0) (lim := 115) rV_eq m2 m4 pl_20 (TB_in _ cw_20 rfl) ⟨(fun _ => ⟨_, _, _, _, _, _, rfl, rfl, by rw [m4]; rfl⟩), (fun z => by rw [m3] at z; cases z)⟩ (fun z => by cases z) KDL_take rfl rfl (fun z => by cases z) (fun z => by cases z) (fun _ => rfl) (by rw [m1]; exact Nat.le_of_ble_eq_true rfl)
      (fun _ _ _ _ z => by cases z)
      (fun _ _ _ _ z => by cases z)
      (fun _ _ _ _ z => by cases z)
      (fun _ _ _ _ z => by cases z)
      (fun p e R s m args below meth c Q n0 F hret => ?_)
    rw [m1] at F hret ⊢
    rw [mc_Ledger_addOffset] at F hret
    exact cuts_s (K := 400) (M := 50) (D := D_Ledger_addOffset N) (B := fun _ _ _ _ _ => none) F hret (chkT_ok chk_Ledger_addOffset) (hM_Ledger_addOffset N) (fun _ _ _ _ _ z => by cases z) (hD_Ledger_addOffset N) N 0 _ _ _ hf
  · cases hf
def T_Ledger_marksWithValues : List (List (Option RW)) := [
  [some (.iconst 0, 1, [], 0, 0), some (.istore_n 2, 1, [2], 0, 0), some (.iconst 0, 1, [], 0, 0), some (.istore_n 3, 1, [3], 0, 0), some (.iload_n 3, 1, [3], 0, 0), some (.iload_n 1, 1, [1], 0, 0), some (.if_icmp .ge 43, 3, [49], 0, 0), none, none, some (.iconst 0, 1, [], 0, 0), some (.istore 4, 2, [4], 0, 0), none, some (.iload 4, 2, [4], 0, 0), none, some (.aload_n 0, 1, [0], 0, 0), some (.getfield 27, 3, [3, 5, 0], 0, 0), none, none, some (.if_icmp .ge 25, 3, [43], 0, 0), none, none, some (.aload_n 0, 1, [0], 0, 0), some (.iload 4, 2, [4], 0, 0), none, some (.iload_n 3, 1, [3], 0, 0), some (.invokevirtual 59, 3, [0, 21, 3, 0], 0, 0), none, none, some (.ifCond .eq 9, 3, [37], 0, 0), none, none, some (.iload_n 2, 1, [2], 0, 0)],
  [some (.iconst 1, 1, [], 1, 0), some (.iload_n 3, 1, [3], 0, 0), some (.ishl, 1, [], 0, 0), some (.ior, 1, [], 0, 0), some (.istore_n 2, 1, [2], 0, 0), some (.iinc 4 1, 3, [4], 1, 0), none, none, some (.goto (-28), 3, [12], 0, 0), none, none, some (.iinc 3 1, 3, [3], 1, 0), none, none, some (.goto (-42), 3, [4], 0, 0), none, none, some (.iload_n 2, 1, [2], 0, 0), some (.ireturn, 1, [], 0, 0)]]
def F_Ledger_marksWithValues_12 (N : Nat) (bk : (Int32 → Int32 → Int32 → MH → Option (Int32 × MH)) × (Int32 → Int32 → Int32 → Int32 → MH → Option (Int32 × MH))) (a1 : Int32) (a2 : Int32) (a3 : Int32) (a4 : Int32) (h : MH) : Option (Int32 × MH) :=
  if (gI h 16 5) ≤ a4 then
  (let v1 : Int32 := a3 + 1
  (bk.1) a1 a2 v1 h)
  else
  ((f_Ledger_counts N a4 a3 h).bind (fun x2 =>
  if x2.1 = 0 then
  (let v3 : Int32 := a4 + 1
  (bk.2) a1 a2 a3 v3 x2.2)
  else
  (let v4 : Int32 := a2 ||| ((1 : Int32) <<< (a3 &&& 31))
  let v5 : Int32 := a4 + 1
  (bk.2) a1 v4 a3 v5 x2.2)))
def F_Ledger_marksWithValues_4 (N : Nat) (bk : (Int32 → Int32 → Int32 → MH → Option (Int32 × MH)) × (Int32 → Int32 → Int32 → Int32 → MH → Option (Int32 × MH))) (a1 : Int32) (a2 : Int32) (a3 : Int32) (h : MH) : Option (Int32 × MH) :=
  if a1 ≤ a3 then
  (some (a2, h))
  else
  (F_Ledger_marksWithValues_12 N bk a1 a2 a3 0 h)
def F_Ledger_marksWithValues_0 (N : Nat) (bk : (Int32 → Int32 → Int32 → MH → Option (Int32 × MH)) × (Int32 → Int32 → Int32 → Int32 → MH → Option (Int32 × MH))) (a1 : Int32) (h : MH) : Option (Int32 × MH) :=
  F_Ledger_marksWithValues_4 N bk a1 0 0 h
def L_Ledger_marksWithValues (N : Nat) : Nat → ((Int32 → Int32 → Int32 → MH → Option (Int32 × MH)) × (Int32 → Int32 → Int32 → Int32 → MH → Option (Int32 × MH)))
  | 0 => (fun _ _ _ _ => none, fun _ _ _ _ _ => none)
  | n + 1 => (F_Ledger_marksWithValues_4 N (L_Ledger_marksWithValues N n), F_Ledger_marksWithValues_12 N (L_Ledger_marksWithValues N n))
def f_Ledger_marksWithValues (N : Nat) (a1 : Int32) (h : MH) : Option (Int32 × MH) := F_Ledger_marksWithValues_0 N (L_Ledger_marksWithValues N N) a1 h
def C_Ledger_marksWithValues (N : Nat) : MC := (KDL, false, (fun _ => 0), jsB, (fun j => match Nat.beq j 21 with
    | true => w_Ledger_counts (f_Ledger_counts N)
    | false => fun _ _ => none), (fun _ _ _ => none), (fun _ _ _ => none), (fun _ _ _ => none))
def D_Ledger_marksWithValues (N : Nat) (n pc : Nat) (lv : ML) (st : List MV) (h : MH) : Option (Int32 × MH) :=
  match Nat.beq pc 0 with
  | true => (match lk lv 0, lk lv 1, st with
    | some (.inr (.inr (0, 3, 16))), some (.inl a1), [] => F_Ledger_marksWithValues_0 N (L_Ledger_marksWithValues N n) a1 h
    | _, _, _ => none)
  | false => match Nat.beq pc 4 with
  | true => (match lk lv 0, lk lv 1, lk lv 2, lk lv 3, st with
    | some (.inr (.inr (0, 3, 16))), some (.inl a1), some (.inl a2), some (.inl a3), [] => F_Ledger_marksWithValues_4 N (L_Ledger_marksWithValues N n) a1 a2 a3 h
    | _, _, _, _, _ => none)
  | false => match Nat.beq pc 12 with
  | true => (match lk lv 0, lk lv 1, lk lv 2, lk lv 3, lk lv 4, st with
    | some (.inr (.inr (0, 3, 16))), some (.inl a1), some (.inl a2), some (.inl a3), some (.inl a4), [] => F_Ledger_marksWithValues_12 N (L_Ledger_marksWithValues N n) a1 a2 a3 a4 h
    | _, _, _, _, _, _ => none)
  | false => none
def B_Ledger_marksWithValues (N : Nat) (n pc : Nat) (lv : ML) (st : List MV) (h : MH) : Option (Int32 × MH) :=
  match Nat.beq pc 4 with
  | true => (match lk lv 0, lk lv 1, lk lv 2, lk lv 3, st with
    | some (.inr (.inr (0, 3, 16))), some (.inl a1), some (.inl a2), some (.inl a3), [] => ((L_Ledger_marksWithValues N n).1) a1 a2 a3 h
    | _, _, _, _, _ => none)
  | false => match Nat.beq pc 12 with
  | true => (match lk lv 0, lk lv 1, lk lv 2, lk lv 3, lk lv 4, st with
    | some (.inr (.inr (0, 3, 16))), some (.inl a1), some (.inl a2), some (.inl a3), some (.inl a4), [] => ((L_Ledger_marksWithValues N n).2) a1 a2 a3 a4 h
    | _, _, _, _, _, _ => none)
  | false => none
set_option maxRecDepth 1000000 in
theorem E_Ledger_marksWithValues_0 (N : Nat) (n : Nat) (a1 : Int32) (h : MH) : seg (C_Ledger_marksWithValues N) 5 0 rI T_Ledger_marksWithValues [0, 4, 12] (fun q lv st h => match Nat.ble 1 q with
    | true => D_Ledger_marksWithValues N n q lv st h
    | false => B_Ledger_marksWithValues N n q lv st h) 400 true 0 [(0, .inr (.inr (0, 3, 16))), (1, .inl a1)] [] h = F_Ledger_marksWithValues_0 N (L_Ledger_marksWithValues N n) a1 h := (rfl)
set_option maxRecDepth 1000000 in
theorem E_Ledger_marksWithValues_4 (N : Nat) (n : Nat) (a1 : Int32) (a2 : Int32) (a3 : Int32) (h : MH) : seg (C_Ledger_marksWithValues N) 5 0 rI T_Ledger_marksWithValues [0, 4, 12] (fun q lv st h => match Nat.ble 5 q with
    | true => D_Ledger_marksWithValues N n q lv st h
    | false => B_Ledger_marksWithValues N n q lv st h) 400 true 4 [(0, .inr (.inr (0, 3, 16))), (1, .inl a1), (2, .inl a2), (3, .inl a3)] [] h = F_Ledger_marksWithValues_4 N (L_Ledger_marksWithValues N n) a1 a2 a3 h := (rfl)
set_option maxRecDepth 1000000 in
theorem E_Ledger_marksWithValues_12 (N : Nat) (n : Nat) (a1 : Int32) (a2 : Int32) (a3 : Int32) (a4 : Int32) (h : MH) : seg (C_Ledger_marksWithValues N) 5 0 rI T_Ledger_marksWithValues [0, 4, 12] (fun q lv st h => match Nat.ble 13 q with
    | true => D_Ledger_marksWithValues N n q lv st h
    | false => B_Ledger_marksWithValues N n q lv st h) 400 true 12 [(0, .inr (.inr (0, 3, 16))), (1, .inl a1), (2, .inl a2), (3, .inl a3), (4, .inl a4)] [] h = F_Ledger_marksWithValues_12 N (L_Ledger_marksWithValues N n) a1 a2 a3 a4 h := (rfl)
set_option maxRecDepth 1000000 in
theorem chk_Ledger_marksWithValues : chkT 3 false prog_5_method_7_code T_Ledger_marksWithValues = true := by decide +kernel
theorem mc_Ledger_marksWithValues : mC 23 = prog_5_method_7_code := by rfl
theorem mx_Ledger_marksWithValues : mL 23 = 5 ∧ mR 23 = some .int ∧ mK 23 = 1 ∧ (mN 23).cls = cN 3 := by decide +kernel
theorem hD_Ledger_marksWithValues (N : Nat) {r : Int32 × MH} : ∀ n pc lv st h, D_Ledger_marksWithValues N n pc lv st h = some r → ∃ lv', (∀ q ∈ lv', q ∈ lv) ∧ seg (C_Ledger_marksWithValues N) 5 0 rI T_Ledger_marksWithValues [0, 4, 12] (fun q lv st h => match Nat.ble (pc + 1) q with
    | true => D_Ledger_marksWithValues N n q lv st h
    | false => B_Ledger_marksWithValues N n q lv st h) 400 true pc lv' st h = some r := by
  intro n pc lv st h hf
  unfold D_Ledger_marksWithValues at hf
  split at hf
  · rename_i hb
    have hb := Nat.eq_of_beq_eq_true hb
    subst hb
    split at hf
    · rename_i y0 e0 e1
      exact ⟨_, (sub_cons e0 (sub_cons e1 sub_nil)), (E_Ledger_marksWithValues_0 N n _ h).trans hf⟩
    · cases hf
  · skip
    split at hf
    · rename_i hb
      have hb := Nat.eq_of_beq_eq_true hb
      subst hb
      split at hf
      · rename_i y0 y1 y2 e0 e1 e2 e3
        exact ⟨_, (sub_cons e0 (sub_cons e1 (sub_cons e2 (sub_cons e3 sub_nil)))), (E_Ledger_marksWithValues_4 N n _ _ _ h).trans hf⟩
      · cases hf
    · skip
      split at hf
      · rename_i hb
        have hb := Nat.eq_of_beq_eq_true hb
        subst hb
        split at hf
        · rename_i y0 y1 y2 y3 e0 e1 e2 e3 e4
          exact ⟨_, (sub_cons e0 (sub_cons e1 (sub_cons e2 (sub_cons e3 (sub_cons e4 sub_nil))))), (E_Ledger_marksWithValues_12 N n _ _ _ _ h).trans hf⟩
        · cases hf
      · skip
        cases hf
theorem hM_Ledger_marksWithValues (N : Nat) {r : Int32 × MH} : ∀ n pc lv st h, D_Ledger_marksWithValues N n pc lv st h = some r → pc < 51 := by
  intro n pc lv st h hf
  unfold D_Ledger_marksWithValues at hf
  split at hf
  · rename_i hb
    rw [Nat.eq_of_beq_eq_true hb]
    decide
  · skip
    split at hf
    · rename_i hb
      rw [Nat.eq_of_beq_eq_true hb]
      decide
    · skip
      split at hf
      · rename_i hb
        rw [Nat.eq_of_beq_eq_true hb]
        decide
      · skip
        cases hf
theorem hB_Ledger_marksWithValues (N : Nat) {r : Int32 × MH} : ∀ n pc lv st h, B_Ledger_marksWithValues N n pc lv st h = some r → ∃ k, n = k + 1 ∧ D_Ledger_marksWithValues N k pc lv st h = some r := by
  intro n pc lv st h hf
  unfold B_Ledger_marksWithValues at hf
  split at hf
  · rename_i hb
    have hb := Nat.eq_of_beq_eq_true hb
    subst hb
    cases n with
    | zero =>
      split at hf
      · cases hf
      · cases hf
    | succ k =>
      refine ⟨k, rfl, ?_⟩
      exact hf
  · skip
    split at hf
    · rename_i hb
      have hb := Nat.eq_of_beq_eq_true hb
      subst hb
      cases n with
      | zero =>
        split at hf
        · cases hf
        · cases hf
      | succ k =>
        refine ⟨k, rfl, ?_⟩
        exact hf
    · skip
      cases hf
theorem s_Ledger_marksWithValues {l : Launch} {E : EV} {N : Nat} {as : List MV} {h : MH} {r : Int32 × MH} (hf : w_Ledger_marksWithValues (f_Ledger_marksWithValues N) as h = some r) : SndM l E false 1 23 as h (some (.inl r.1)) r.2 := by
  unfold w_Ledger_marksWithValues at hf
  split at hf
  · obtain ⟨m1, m2, m3, m4⟩ := mx_Ledger_marksWithValues
    refine snd_of (C := C_Ledger_marksWithValues N) (own := 3) (rz := 0) (lim := 115) rI_eq m2 m4 pl_23 (TB_in _ cw_23 rfl) ⟨(fun _ => ⟨_, _, _, _, _, _, rfl, rfl, by rw [m4]; rfl⟩), (fun z => by rw [m3] at z; cases z)⟩ (fun z => by cases z) KDL_take rfl rfl (fun z => by cases z) (fun z => by cases z) (fun _ => rfl) (by rw [m1]; exact Nat.le_of_ble_eq_true rfl)
      (fun j as h x z => by
      dsimp only [C_Ledger_marksWithValues] at z
      cases hb : Nat.beq j 21 with
      | true =>
        have hb := Nat.eq_of_beq_eq_true hb
        subst hb
        exact ⟨0, by decide, (fun z => by cases z), s_Ledger_counts z⟩
      | false =>
        rw [hb] at z
        dsimp only at z
        cases z)
      (fun _ _ _ _ z => by cases z)
      (fun _ _ _ _ z => by cases z)
      (fun _ _ _ _ z => by cases z)
      (fun p e R s m args below meth c Q n0 F hret => ?_)
    rw [m1] at F hret ⊢
    rw [mc_Ledger_marksWithValues] at F hret
    exact cuts_s (K := 400) (M := 51) (D := D_Ledger_marksWithValues N) (B := B_Ledger_marksWithValues N) F hret (chkT_ok chk_Ledger_marksWithValues) (hM_Ledger_marksWithValues N) (hB_Ledger_marksWithValues N) (hD_Ledger_marksWithValues N) N 0 _ _ _ hf
  · cases hf
def T_Line_clear : List (List (Option RW)) := [
  [some (.aload_n 0, 1, [0], 0, 0), some (.lconst 0, 1, [], 0, 0), some (.putfield 7, 3, [4, 0, 1], 0, 0), none, none, some (.aload_n 0, 1, [0], 0, 0), some (.lconst 0, 1, [], 0, 0), some (.putfield 13, 3, [4, 1, 1], 0, 0), none, none, some (.aload_n 0, 1, [0], 0, 0), some (.lconst 0, 1, [], 0, 0), some (.putfield 16, 3, [4, 2, 1], 0, 0), none, none, some (.aload_n 0, 1, [0], 0, 0), some (.lconst 0, 1, [], 0, 0), some (.putfield 19, 3, [4, 3, 1], 0, 0), none, none, some (.aload_n 0, 1, [0], 0, 0), some (.lconst 0, 1, [], 0, 0), some (.putfield 22, 3, [4, 4, 1], 0, 0), none, none, some (.aload_n 0, 1, [0], 0, 0), some (.lconst 0, 1, [], 0, 0), some (.putfield 25, 3, [4, 5, 1], 0, 0), none, none, some (.return_, 1, [], 0, 0)]]
def f_Line_clear (N : Nat) (h : MH) : Option (MH) :=
  let h1 : MH := sJ h 28 0 0
  let h2 : MH := sJ h1 28 1 0
  let h3 : MH := sJ h2 28 2 0
  let h4 : MH := sJ h3 28 3 0
  let h5 : MH := sJ h4 28 4 0
  let h6 : MH := sJ h5 28 5 0
  some h6
def C_Line_clear (N : Nat) : MC := (KDL, false, (fun _ => 0), jsB, (fun _ _ _ => none), (fun _ _ _ => none), (fun _ _ _ => none), (fun _ _ _ => none))
def D_Line_clear (N : Nat) (n pc : Nat) (lv : ML) (st : List MV) (h : MH) : Option (MH) :=
  match Nat.beq pc 0 with
  | true => (match lk lv 0, st with
    | some (.inr (.inr (0, 4, 28))), [] => f_Line_clear N h
    | _, _ => none)
  | false => none
set_option maxRecDepth 1000000 in
theorem E_Line_clear_0 (N : Nat) (n : Nat) (h : MH) : seg (C_Line_clear N) 1 0 rV T_Line_clear [0] (fun q lv st h => match Nat.ble 1 q with
    | true => D_Line_clear N n q lv st h
    | false => none) 400 true 0 [(0, .inr (.inr (0, 4, 28)))] [] h = f_Line_clear N h := (rfl)
set_option maxRecDepth 1000000 in
theorem chk_Line_clear : chkT 4 false prog_6_method_2_code T_Line_clear = true := by decide +kernel
theorem mc_Line_clear : mC 30 = prog_6_method_2_code := by rfl
theorem mx_Line_clear : mL 30 = 1 ∧ mR 30 = none ∧ mK 30 = 1 ∧ (mN 30).cls = cN 4 := by decide +kernel
theorem hD_Line_clear (N : Nat) {r : MH} : ∀ n pc lv st h, D_Line_clear N n pc lv st h = some r → ∃ lv', (∀ q ∈ lv', q ∈ lv) ∧ seg (C_Line_clear N) 1 0 rV T_Line_clear [0] (fun q lv st h => match Nat.ble (pc + 1) q with
    | true => D_Line_clear N n q lv st h
    | false => none) 400 true pc lv' st h = some r := by
  intro n pc lv st h hf
  unfold D_Line_clear at hf
  split at hf
  · rename_i hb
    have hb := Nat.eq_of_beq_eq_true hb
    subst hb
    split at hf
    · rename_i e0
      exact ⟨_, (sub_cons e0 sub_nil), (E_Line_clear_0 N n h).trans hf⟩
    · cases hf
  · skip
    cases hf
theorem hM_Line_clear (N : Nat) {r : MH} : ∀ n pc lv st h, D_Line_clear N n pc lv st h = some r → pc < 31 := by
  intro n pc lv st h hf
  unfold D_Line_clear at hf
  split at hf
  · rename_i hb
    rw [Nat.eq_of_beq_eq_true hb]
    decide
  · skip
    cases hf
theorem s_Line_clear {l : Launch} {E : EV} {N : Nat} {as : List MV} {h : MH} {r : MH} (hf : w_Line_clear (f_Line_clear N) as h = some r) : SndM l E false 0 30 as h none r := by
  unfold w_Line_clear at hf
  split at hf
  · obtain ⟨m1, m2, m3, m4⟩ := mx_Line_clear
    refine snd_of (C := C_Line_clear N) (own := 4) (rz := 0) (lim := 115) rV_eq m2 m4 pl_30 (TB_in _ cw_30 rfl) ⟨(fun _ => ⟨_, _, _, _, _, _, rfl, rfl, by rw [m4]; rfl⟩), (fun z => by rw [m3] at z; cases z)⟩ (fun z => by cases z) KDL_take rfl rfl (fun z => by cases z) (fun z => by cases z) (fun _ => rfl) (by rw [m1]; exact Nat.le_of_ble_eq_true rfl)
      (fun _ _ _ _ z => by cases z)
      (fun _ _ _ _ z => by cases z)
      (fun _ _ _ _ z => by cases z)
      (fun _ _ _ _ z => by cases z)
      (fun p e R s m args below meth c Q n0 F hret => ?_)
    rw [m1] at F hret ⊢
    rw [mc_Line_clear] at F hret
    exact cuts_s (K := 400) (M := 31) (D := D_Line_clear N) (B := fun _ _ _ _ _ => none) F hret (chkT_ok chk_Line_clear) (hM_Line_clear N) (fun _ _ _ _ _ z => by cases z) (hD_Line_clear N) N 0 _ _ _ hf
  · cases hf
def T_Line_add : List (List (Option RW)) := [
  [some (.aload_n 0, 1, [0], 0, 0), some (.dup, 1, [], 0, 0), some (.getfield 7, 3, [4, 0, 1], 0, 0), none, none, some (.lconst 1, 1, [], 0, 1), some (.ladd, 1, [], 0, 0), some (.putfield 7, 3, [4, 0, 1], 0, 0), none, none, some (.aload_n 0, 1, [0], 0, 0), some (.dup, 1, [], 0, 0), some (.getfield 13, 3, [4, 1, 1], 0, 0), none, none, some (.lload_n 1, 1, [1], 0, 0), some (.ladd, 1, [], 0, 0), some (.putfield 13, 3, [4, 1, 1], 0, 0), none, none, some (.aload_n 0, 1, [0], 0, 0), some (.dup, 1, [], 0, 0), some (.getfield 16, 3, [4, 2, 1], 0, 0), none, none, some (.lload_n 3, 1, [3], 0, 0), some (.ladd, 1, [], 0, 0), some (.putfield 16, 3, [4, 2, 1], 0, 0), none, none, some (.aload_n 0, 1, [0], 0, 0), some (.dup, 1, [], 0, 0)],
  [some (.getfield 19, 3, [4, 3, 1], 0, 0), none, none, some (.lload_n 1, 1, [1], 0, 0), some (.lload_n 1, 1, [1], 0, 0), some (.lmul, 1, [], 0, 0), some (.ladd, 1, [], 0, 0), some (.putfield 19, 3, [4, 3, 1], 0, 0), none, none, some (.aload_n 0, 1, [0], 0, 0), some (.dup, 1, [], 0, 0), some (.getfield 22, 3, [4, 4, 1], 0, 0), none, none, some (.lload_n 1, 1, [1], 0, 0), some (.lload_n 3, 1, [3], 0, 0), some (.lmul, 1, [], 0, 0), some (.ladd, 1, [], 0, 0), some (.putfield 22, 3, [4, 4, 1], 0, 0), none, none, some (.aload_n 0, 1, [0], 0, 0), some (.dup, 1, [], 0, 0), some (.getfield 25, 3, [4, 5, 1], 0, 0), none, none, some (.lload_n 3, 1, [3], 0, 0), some (.lload_n 3, 1, [3], 0, 0), some (.lmul, 1, [], 0, 0), some (.ladd, 1, [], 0, 0), some (.putfield 25, 3, [4, 5, 1], 0, 0)],
  [none, none, some (.return_, 1, [], 0, 0)]]
def f_Line_add (N : Nat) (a1 : Int64) (a3 : Int64) (h : MH) : Option (MH) :=
  let h1 : MH := sJ h 28 0 ((gJ h 28 0) + 1)
  let h2 : MH := sJ h1 28 1 ((gJ h1 28 1) + a1)
  let h3 : MH := sJ h2 28 2 ((gJ h2 28 2) + a3)
  let h4 : MH := sJ h3 28 3 ((gJ h3 28 3) + (a1 * a1))
  let h5 : MH := sJ h4 28 4 ((gJ h4 28 4) + (a1 * a3))
  let h6 : MH := sJ h5 28 5 ((gJ h5 28 5) + (a3 * a3))
  some h6
def C_Line_add (N : Nat) : MC := (KDL, false, (fun _ => 0), jsB, (fun _ _ _ => none), (fun _ _ _ => none), (fun _ _ _ => none), (fun _ _ _ => none))
def D_Line_add (N : Nat) (n pc : Nat) (lv : ML) (st : List MV) (h : MH) : Option (MH) :=
  match Nat.beq pc 0 with
  | true => (match lk lv 0, lk lv 1, lk lv 3, st with
    | some (.inr (.inr (0, 4, 28))), some (.inr (.inl a1)), some (.inr (.inl a3)), [] => f_Line_add N a1 a3 h
    | _, _, _, _ => none)
  | false => none
set_option maxRecDepth 1000000 in
theorem E_Line_add_0 (N : Nat) (n : Nat) (a1 : Int64) (a3 : Int64) (h : MH) : seg (C_Line_add N) 5 0 rV T_Line_add [0] (fun q lv st h => match Nat.ble 1 q with
    | true => D_Line_add N n q lv st h
    | false => none) 400 true 0 [(0, .inr (.inr (0, 4, 28))), (1, .inr (.inl a1)), (3, .inr (.inl a3))] [] h = f_Line_add N a1 a3 h := (rfl)
set_option maxRecDepth 1000000 in
theorem chk_Line_add : chkT 4 false prog_6_method_3_code T_Line_add = true := by decide +kernel
theorem mc_Line_add : mC 31 = prog_6_method_3_code := by rfl
theorem mx_Line_add : mL 31 = 5 ∧ mR 31 = none ∧ mK 31 = 1 ∧ (mN 31).cls = cN 4 := by decide +kernel
theorem hD_Line_add (N : Nat) {r : MH} : ∀ n pc lv st h, D_Line_add N n pc lv st h = some r → ∃ lv', (∀ q ∈ lv', q ∈ lv) ∧ seg (C_Line_add N) 5 0 rV T_Line_add [0] (fun q lv st h => match Nat.ble (pc + 1) q with
    | true => D_Line_add N n q lv st h
    | false => none) 400 true pc lv' st h = some r := by
  intro n pc lv st h hf
  unfold D_Line_add at hf
  split at hf
  · rename_i hb
    have hb := Nat.eq_of_beq_eq_true hb
    subst hb
    split at hf
    · rename_i y0 y1 e0 e1 e2
      exact ⟨_, (sub_cons e0 (sub_cons e1 (sub_cons e2 sub_nil))), (E_Line_add_0 N n _ _ h).trans hf⟩
    · cases hf
  · skip
    cases hf
theorem hM_Line_add (N : Nat) {r : MH} : ∀ n pc lv st h, D_Line_add N n pc lv st h = some r → pc < 67 := by
  intro n pc lv st h hf
  unfold D_Line_add at hf
  split at hf
  · rename_i hb
    rw [Nat.eq_of_beq_eq_true hb]
    decide
  · skip
    cases hf
theorem s_Line_add {l : Launch} {E : EV} {N : Nat} {as : List MV} {h : MH} {r : MH} (hf : w_Line_add (f_Line_add N) as h = some r) : SndM l E false 0 31 as h none r := by
  unfold w_Line_add at hf
  split at hf
  · obtain ⟨m1, m2, m3, m4⟩ := mx_Line_add
    refine snd_of (C := C_Line_add N) (own := 4) (rz := 0) (lim := 115) rV_eq m2 m4 pl_31 (TB_in _ cw_31 rfl) ⟨(fun _ => ⟨_, _, _, _, _, _, rfl, rfl, by rw [m4]; rfl⟩), (fun z => by rw [m3] at z; cases z)⟩ (fun z => by cases z) KDL_take rfl rfl (fun z => by cases z) (fun z => by cases z) (fun _ => rfl) (by rw [m1]; exact Nat.le_of_ble_eq_true rfl)
      (fun _ _ _ _ z => by cases z)
      (fun _ _ _ _ z => by cases z)
      (fun _ _ _ _ z => by cases z)
      (fun _ _ _ _ z => by cases z)
      (fun p e R s m args below meth c Q n0 F hret => ?_)
    rw [m1] at F hret ⊢
    rw [mc_Line_add] at F hret
    exact cuts_s (K := 400) (M := 67) (D := D_Line_add N) (B := fun _ _ _ _ _ => none) F hret (chkT_ok chk_Line_add) (hM_Line_add N) (fun _ _ _ _ _ z => by cases z) (hD_Line_add N) N 0 _ _ _ hf
  · cases hf
def T_Ledger_fit : List (List (Option RW)) := [
  [some (.aload_n 1, 1, [1], 0, 0), some (.invokevirtual 63, 3, [1, 30, 1, 3], 0, 0), none, none, some (.iload_n 2, 1, [2], 0, 0), some (.iconst 0, 1, [], 0, 0), some (.invokestatic 68, 3, [2, 260, 2, 0], 0, 0), none, none, some (.istore 4, 2, [4], 0, 0), none, some (.iload 4, 2, [4], 0, 0), none, some (.iload_n 3, 1, [3], 0, 0), some (.if_icmp .gt 41, 3, [55], 0, 0), none, none, some (.iload 4, 2, [4], 0, 0), none, some (.bipush 20, 2, [], 20, 0), none, some (.if_icmp .ge 34, 3, [55], 0, 0), none, none, some (.aload_n 0, 1, [0], 0, 0), some (.getfield 49, 3, [3, 12, 2, 4, 20, 9], 0, 0), none, none, some (.iload 4, 2, [4], 0, 0), none, some (.baload, 1, [], 0, 0), some (.ifCond .eq 18, 3, [49], 0, 0)],
  [none, none, some (.aload_n 1, 1, [1], 0, 0), some (.iload 4, 2, [4], 0, 0), none, some (.i2l, 1, [], 0, 0), some (.aload_n 0, 1, [0], 0, 0), some (.getfield 53, 3, [3, 13, 2, 1, 20, 10], 0, 0), none, none, some (.iload 4, 2, [4], 0, 0), none, some (.iaload, 1, [], 0, 0), some (.i2l, 1, [], 0, 0), some (.invokevirtual 74, 3, [1, 31, 3, 3], 0, 0), none, none, some (.iinc 4 1, 3, [4], 1, 0), none, none, some (.goto (-41), 3, [11], 0, 0), none, none, some (.return_, 1, [], 0, 0)]]
def F_Ledger_fit_11 (N : Nat) (bk : (Int32 → Int32 → MH → Option (MH))) (a3 : Int32) (a4 : Int32) (h : MH) : Option (MH) :=
  if a3 < a4 then
  (some h)
  else
  (if 20 ≤ a4 then
  (some h)
  else
  (if inB a4 20 = true then
  (if (gI h 25 (iN a4)) = 0 then
  (let v3 : Int32 := a4 + 1
  bk a3 v3 h)
  else
  (if inB a4 20 = true then
  ((f_Line_add N a4.toInt64 (((gI h 26 (iN a4))).toInt64) h).bind (fun x4 =>
  let v5 : Int32 := a4 + 1
  bk a3 v5 x4))
  else none))
  else none))
def F_Ledger_fit_0 (N : Nat) (bk : (Int32 → Int32 → MH → Option (MH))) (a2 : Int32) (a3 : Int32) (h : MH) : Option (MH) :=
  (f_Line_clear N h).bind (fun x1 =>
  (f_Math_max N a2 0 x1).bind (fun x2 =>
  F_Ledger_fit_11 N bk a3 x2.1 x2.2))
def L_Ledger_fit (N : Nat) : Nat → (Int32 → Int32 → MH → Option (MH))
  | 0 => fun _ _ _ => none
  | n + 1 => F_Ledger_fit_11 N (L_Ledger_fit N n)
def f_Ledger_fit (N : Nat) (a2 : Int32) (a3 : Int32) (h : MH) : Option (MH) := F_Ledger_fit_0 N (L_Ledger_fit N N) a2 a3 h
def C_Ledger_fit (N : Nat) : MC := (KDL, false, (fun _ => 0), jsB, (fun j => match Nat.beq j 260 with
    | true => w_Math_max (f_Math_max N)
    | false => fun _ _ => none), (fun _ _ _ => none), (fun _ _ _ => none), (fun j => match Nat.beq j 30 with
    | true => w_Line_clear (f_Line_clear N)
    | false => match Nat.beq j 31 with
    | true => w_Line_add (f_Line_add N)
    | false => fun _ _ => none))
def D_Ledger_fit (N : Nat) (n pc : Nat) (lv : ML) (st : List MV) (h : MH) : Option (MH) :=
  match Nat.beq pc 0 with
  | true => (match lk lv 0, lk lv 1, lk lv 2, lk lv 3, st with
    | some (.inr (.inr (0, 3, 16))), some (.inr (.inr (0, 4, 28))), some (.inl a2), some (.inl a3), [] => F_Ledger_fit_0 N (L_Ledger_fit N n) a2 a3 h
    | _, _, _, _, _ => none)
  | false => match Nat.beq pc 11 with
  | true => (match lk lv 0, lk lv 1, lk lv 3, lk lv 4, st with
    | some (.inr (.inr (0, 3, 16))), some (.inr (.inr (0, 4, 28))), some (.inl a3), some (.inl a4), [] => F_Ledger_fit_11 N (L_Ledger_fit N n) a3 a4 h
    | _, _, _, _, _ => none)
  | false => none
def B_Ledger_fit (N : Nat) (n pc : Nat) (lv : ML) (st : List MV) (h : MH) : Option (MH) :=
  match Nat.beq pc 11 with
  | true => (match lk lv 0, lk lv 1, lk lv 3, lk lv 4, st with
    | some (.inr (.inr (0, 3, 16))), some (.inr (.inr (0, 4, 28))), some (.inl a3), some (.inl a4), [] => ((L_Ledger_fit N n)) a3 a4 h
    | _, _, _, _, _ => none)
  | false => none
set_option maxRecDepth 1000000 in
theorem E_Ledger_fit_0 (N : Nat) (n : Nat) (a2 : Int32) (a3 : Int32) (h : MH) : seg (C_Ledger_fit N) 5 0 rV T_Ledger_fit [0, 11] (fun q lv st h => match Nat.ble 1 q with
    | true => D_Ledger_fit N n q lv st h
    | false => B_Ledger_fit N n q lv st h) 400 true 0 [(0, .inr (.inr (0, 3, 16))), (1, .inr (.inr (0, 4, 28))), (2, .inl a2), (3, .inl a3)] [] h = F_Ledger_fit_0 N (L_Ledger_fit N n) a2 a3 h := (rfl)
set_option maxRecDepth 1000000 in
theorem E_Ledger_fit_11 (N : Nat) (n : Nat) (a3 : Int32) (a4 : Int32) (h : MH) : seg (C_Ledger_fit N) 5 0 rV T_Ledger_fit [0, 11] (fun q lv st h => match Nat.ble 12 q with
    | true => D_Ledger_fit N n q lv st h
    | false => B_Ledger_fit N n q lv st h) 400 true 11 [(0, .inr (.inr (0, 3, 16))), (1, .inr (.inr (0, 4, 28))), (3, .inl a3), (4, .inl a4)] [] h = F_Ledger_fit_11 N (L_Ledger_fit N n) a3 a4 h := (rfl)
set_option maxRecDepth 1000000 in
theorem chk_Ledger_fit : chkT 3 false prog_5_method_8_code T_Ledger_fit = true := by decide +kernel
theorem mc_Ledger_fit : mC 24 = prog_5_method_8_code := by rfl
theorem mx_Ledger_fit : mL 24 = 5 ∧ mR 24 = none ∧ mK 24 = 1 ∧ (mN 24).cls = cN 3 := by decide +kernel
theorem hD_Ledger_fit (N : Nat) {r : MH} : ∀ n pc lv st h, D_Ledger_fit N n pc lv st h = some r → ∃ lv', (∀ q ∈ lv', q ∈ lv) ∧ seg (C_Ledger_fit N) 5 0 rV T_Ledger_fit [0, 11] (fun q lv st h => match Nat.ble (pc + 1) q with
    | true => D_Ledger_fit N n q lv st h
    | false => B_Ledger_fit N n q lv st h) 400 true pc lv' st h = some r := by
  intro n pc lv st h hf
  unfold D_Ledger_fit at hf
  split at hf
  · rename_i hb
    have hb := Nat.eq_of_beq_eq_true hb
    subst hb
    split at hf
    · rename_i y0 y1 e0 e1 e2 e3
      exact ⟨_, (sub_cons e0 (sub_cons e1 (sub_cons e2 (sub_cons e3 sub_nil)))), (E_Ledger_fit_0 N n _ _ h).trans hf⟩
    · cases hf
  · skip
    split at hf
    · rename_i hb
      have hb := Nat.eq_of_beq_eq_true hb
      subst hb
      split at hf
      · rename_i y0 y1 e0 e1 e2 e3
        exact ⟨_, (sub_cons e0 (sub_cons e1 (sub_cons e2 (sub_cons e3 sub_nil)))), (E_Ledger_fit_11 N n _ _ h).trans hf⟩
      · cases hf
    · skip
      cases hf
theorem hM_Ledger_fit (N : Nat) {r : MH} : ∀ n pc lv st h, D_Ledger_fit N n pc lv st h = some r → pc < 56 := by
  intro n pc lv st h hf
  unfold D_Ledger_fit at hf
  split at hf
  · rename_i hb
    rw [Nat.eq_of_beq_eq_true hb]
    decide
  · skip
    split at hf
    · rename_i hb
      rw [Nat.eq_of_beq_eq_true hb]
      decide
    · skip
      cases hf
theorem hB_Ledger_fit (N : Nat) {r : MH} : ∀ n pc lv st h, B_Ledger_fit N n pc lv st h = some r → ∃ k, n = k + 1 ∧ D_Ledger_fit N k pc lv st h = some r := by
  intro n pc lv st h hf
  unfold B_Ledger_fit at hf
  split at hf
  · rename_i hb
    have hb := Nat.eq_of_beq_eq_true hb
    subst hb
    cases n with
    | zero =>
      split at hf
      · cases hf
      · cases hf
    | succ k =>
      refine ⟨k, rfl, ?_⟩
      exact hf
  · skip
    cases hf
theorem s_Ledger_fit {l : Launch} {E : EV} {N : Nat} {as : List MV} {h : MH} {r : MH} (hf : w_Ledger_fit (f_Ledger_fit N) as h = some r) : SndM l E false 1 24 as h none r := by
  unfold w_Ledger_fit at hf
  split at hf
  · obtain ⟨m1, m2, m3, m4⟩ := mx_Ledger_fit
    refine snd_of (C := C_Ledger_fit N) (own := 3) (rz := 0) (lim := 115) rV_eq m2 m4 pl_24 (TB_in _ cw_24 rfl) ⟨(fun _ => ⟨_, _, _, _, _, _, rfl, rfl, by rw [m4]; rfl⟩), (fun z => by rw [m3] at z; cases z)⟩ (fun z => by cases z) KDL_take rfl rfl (fun z => by cases z) (fun z => by cases z) (fun _ => rfl) (by rw [m1]; exact Nat.le_of_ble_eq_true rfl)
      (fun j as h x z => by
      dsimp only [C_Ledger_fit] at z
      cases hb : Nat.beq j 260 with
      | true =>
        have hb := Nat.eq_of_beq_eq_true hb
        subst hb
        exact ⟨0, by decide, (fun z => by cases z), s_Math_max z⟩
      | false =>
        rw [hb] at z
        dsimp only at z
        cases z)
      (fun _ _ _ _ z => by cases z)
      (fun _ _ _ _ z => by cases z)
      (fun j as h x z => by
      dsimp only [C_Ledger_fit] at z
      cases hb : Nat.beq j 30 with
      | true =>
        have hb := Nat.eq_of_beq_eq_true hb
        subst hb
        exact ⟨0, by decide, (fun z => by cases z), s_Line_clear z⟩
      | false =>
        rw [hb] at z
        dsimp only at z
        cases hb : Nat.beq j 31 with
        | true =>
          have hb := Nat.eq_of_beq_eq_true hb
          subst hb
          exact ⟨0, by decide, (fun z => by cases z), s_Line_add z⟩
        | false =>
          rw [hb] at z
          dsimp only at z
          cases z)
      (fun p e R s m args below meth c Q n0 F hret => ?_)
    rw [m1] at F hret ⊢
    rw [mc_Ledger_fit] at F hret
    exact cuts_s (K := 400) (M := 56) (D := D_Ledger_fit N) (B := B_Ledger_fit N) F hret (chkT_ok chk_Ledger_fit) (hM_Ledger_fit N) (hB_Ledger_fit N) (hD_Ledger_fit N) N 0 _ _ _ hf
  · cases hf
def T_Line_stands : List (List (Option RW)) := [
  [some (.aload_n 0, 1, [0], 0, 0), some (.getfield 7, 3, [4, 0, 1], 0, 0), none, none, some (.ldc2_w 28, 3, [], 0, 2), none, none, some (.lcmp, 1, [], 0, 0), some (.ifCond .lt 7, 3, [15], 0, 0), none, none, some (.iconst 1, 1, [], 1, 0), some (.goto 4, 3, [16], 0, 0), none, none, some (.iconst 0, 1, [], 0, 0), some (.ireturn, 1, [], 0, 0)]]
def f_Line_stands (N : Nat) (h : MH) : Option (Int32 × MH) :=
  if (lg_cmp (gJ h 28 0) 2) < 0 then
  (some (0, h))
  else
  (some (1, h))
def C_Line_stands (N : Nat) : MC := (KDL, false, (fun _ => 0), jsB, (fun _ _ _ => none), (fun _ _ _ => none), (fun _ _ _ => none), (fun _ _ _ => none))
def D_Line_stands (N : Nat) (n pc : Nat) (lv : ML) (st : List MV) (h : MH) : Option (Int32 × MH) :=
  match Nat.beq pc 0 with
  | true => (match lk lv 0, st with
    | some (.inr (.inr (0, 4, 28))), [] => f_Line_stands N h
    | _, _ => none)
  | false => none
set_option maxRecDepth 1000000 in
theorem E_Line_stands_0 (N : Nat) (n : Nat) (h : MH) : seg (C_Line_stands N) 1 1 rI T_Line_stands [0] (fun q lv st h => match Nat.ble 1 q with
    | true => D_Line_stands N n q lv st h
    | false => none) 400 true 0 [(0, .inr (.inr (0, 4, 28)))] [] h = f_Line_stands N h := (rfl)
set_option maxRecDepth 1000000 in
theorem chk_Line_stands : chkT 4 false prog_6_method_4_code T_Line_stands = true := by decide +kernel
theorem mc_Line_stands : mC 32 = prog_6_method_4_code := by rfl
theorem mx_Line_stands : mL 32 = 1 ∧ mR 32 = some .boolean ∧ mK 32 = 1 ∧ (mN 32).cls = cN 4 := by decide +kernel
theorem hD_Line_stands (N : Nat) {r : Int32 × MH} : ∀ n pc lv st h, D_Line_stands N n pc lv st h = some r → ∃ lv', (∀ q ∈ lv', q ∈ lv) ∧ seg (C_Line_stands N) 1 1 rI T_Line_stands [0] (fun q lv st h => match Nat.ble (pc + 1) q with
    | true => D_Line_stands N n q lv st h
    | false => none) 400 true pc lv' st h = some r := by
  intro n pc lv st h hf
  unfold D_Line_stands at hf
  split at hf
  · rename_i hb
    have hb := Nat.eq_of_beq_eq_true hb
    subst hb
    split at hf
    · rename_i e0
      exact ⟨_, (sub_cons e0 sub_nil), (E_Line_stands_0 N n h).trans hf⟩
    · cases hf
  · skip
    cases hf
theorem hM_Line_stands (N : Nat) {r : Int32 × MH} : ∀ n pc lv st h, D_Line_stands N n pc lv st h = some r → pc < 17 := by
  intro n pc lv st h hf
  unfold D_Line_stands at hf
  split at hf
  · rename_i hb
    rw [Nat.eq_of_beq_eq_true hb]
    decide
  · skip
    cases hf
theorem s_Line_stands {l : Launch} {E : EV} {N : Nat} {as : List MV} {h : MH} {r : Int32 × MH} (hf : w_Line_stands (f_Line_stands N) as h = some r) : SndM l E false 0 32 as h (some (.inl r.1)) r.2 := by
  unfold w_Line_stands at hf
  split at hf
  · obtain ⟨m1, m2, m3, m4⟩ := mx_Line_stands
    refine snd_of (C := C_Line_stands N) (own := 4) (rz := 1) (lim := 115) rI_eq m2 m4 pl_32 (TB_in _ cw_32 rfl) ⟨(fun _ => ⟨_, _, _, _, _, _, rfl, rfl, by rw [m4]; rfl⟩), (fun z => by rw [m3] at z; cases z)⟩ (fun z => by cases z) KDL_take rfl rfl (fun z => by cases z) (fun z => by cases z) (fun _ => rfl) (by rw [m1]; exact Nat.le_of_ble_eq_true rfl)
      (fun _ _ _ _ z => by cases z)
      (fun _ _ _ _ z => by cases z)
      (fun _ _ _ _ z => by cases z)
      (fun _ _ _ _ z => by cases z)
      (fun p e R s m args below meth c Q n0 F hret => ?_)
    rw [m1] at F hret ⊢
    rw [mc_Line_stands] at F hret
    exact cuts_s (K := 400) (M := 17) (D := D_Line_stands N) (B := fun _ _ _ _ _ => none) F hret (chkT_ok chk_Line_stands) (hM_Line_stands N) (fun _ _ _ _ _ z => by cases z) (hD_Line_stands N) N 0 _ _ _ hf
  · cases hf
def T_Line_spread : List (List (Option RW)) := [
  [some (.aload_n 0, 1, [0], 0, 0), some (.getfield 7, 3, [4, 0, 1], 0, 0), none, none, some (.aload_n 0, 1, [0], 0, 0), some (.getfield 19, 3, [4, 3, 1], 0, 0), none, none, some (.lmul, 1, [], 0, 0), some (.aload_n 0, 1, [0], 0, 0), some (.getfield 13, 3, [4, 1, 1], 0, 0), none, none, some (.aload_n 0, 1, [0], 0, 0), some (.getfield 13, 3, [4, 1, 1], 0, 0), none, none, some (.lmul, 1, [], 0, 0), some (.lsub, 1, [], 0, 0), some (.lreturn, 1, [], 0, 0)]]
def f_Line_spread (N : Nat) (h : MH) : Option (Int64 × MH) :=
  some (((gJ h 28 0) * (gJ h 28 3)) - ((gJ h 28 1) * (gJ h 28 1)), h)
def C_Line_spread (N : Nat) : MC := (KDL, false, (fun _ => 0), jsB, (fun _ _ _ => none), (fun _ _ _ => none), (fun _ _ _ => none), (fun _ _ _ => none))
def D_Line_spread (N : Nat) (n pc : Nat) (lv : ML) (st : List MV) (h : MH) : Option (Int64 × MH) :=
  match Nat.beq pc 0 with
  | true => (match lk lv 0, st with
    | some (.inr (.inr (0, 4, 28))), [] => f_Line_spread N h
    | _, _ => none)
  | false => none
set_option maxRecDepth 1000000 in
theorem E_Line_spread_0 (N : Nat) (n : Nat) (h : MH) : seg (C_Line_spread N) 1 0 rJ T_Line_spread [0] (fun q lv st h => match Nat.ble 1 q with
    | true => D_Line_spread N n q lv st h
    | false => none) 400 true 0 [(0, .inr (.inr (0, 4, 28)))] [] h = f_Line_spread N h := (rfl)
set_option maxRecDepth 1000000 in
theorem chk_Line_spread : chkT 4 false prog_6_method_5_code T_Line_spread = true := by decide +kernel
theorem mc_Line_spread : mC 33 = prog_6_method_5_code := by rfl
theorem mx_Line_spread : mL 33 = 1 ∧ mR 33 = some .long ∧ mK 33 = 1 ∧ (mN 33).cls = cN 4 := by decide +kernel
theorem hD_Line_spread (N : Nat) {r : Int64 × MH} : ∀ n pc lv st h, D_Line_spread N n pc lv st h = some r → ∃ lv', (∀ q ∈ lv', q ∈ lv) ∧ seg (C_Line_spread N) 1 0 rJ T_Line_spread [0] (fun q lv st h => match Nat.ble (pc + 1) q with
    | true => D_Line_spread N n q lv st h
    | false => none) 400 true pc lv' st h = some r := by
  intro n pc lv st h hf
  unfold D_Line_spread at hf
  split at hf
  · rename_i hb
    have hb := Nat.eq_of_beq_eq_true hb
    subst hb
    split at hf
    · rename_i e0
      exact ⟨_, (sub_cons e0 sub_nil), (E_Line_spread_0 N n h).trans hf⟩
    · cases hf
  · skip
    cases hf
theorem hM_Line_spread (N : Nat) {r : Int64 × MH} : ∀ n pc lv st h, D_Line_spread N n pc lv st h = some r → pc < 20 := by
  intro n pc lv st h hf
  unfold D_Line_spread at hf
  split at hf
  · rename_i hb
    rw [Nat.eq_of_beq_eq_true hb]
    decide
  · skip
    cases hf
theorem s_Line_spread {l : Launch} {E : EV} {N : Nat} {as : List MV} {h : MH} {r : Int64 × MH} (hf : w_Line_spread (f_Line_spread N) as h = some r) : SndM l E false 0 33 as h (some (.inr (.inl r.1))) r.2 := by
  unfold w_Line_spread at hf
  split at hf
  · obtain ⟨m1, m2, m3, m4⟩ := mx_Line_spread
    refine snd_of (C := C_Line_spread N) (own := 4) (rz := 0) (lim := 115) rJ_eq m2 m4 pl_33 (TB_in _ cw_33 rfl) ⟨(fun _ => ⟨_, _, _, _, _, _, rfl, rfl, by rw [m4]; rfl⟩), (fun z => by rw [m3] at z; cases z)⟩ (fun z => by cases z) KDL_take rfl rfl (fun z => by cases z) (fun z => by cases z) (fun _ => rfl) (by rw [m1]; exact Nat.le_of_ble_eq_true rfl)
      (fun _ _ _ _ z => by cases z)
      (fun _ _ _ _ z => by cases z)
      (fun _ _ _ _ z => by cases z)
      (fun _ _ _ _ z => by cases z)
      (fun p e R s m args below meth c Q n0 F hret => ?_)
    rw [m1] at F hret ⊢
    rw [mc_Line_spread] at F hret
    exact cuts_s (K := 400) (M := 20) (D := D_Line_spread N) (B := fun _ _ _ _ _ => none) F hret (chkT_ok chk_Line_spread) (hM_Line_spread N) (fun _ _ _ _ _ z => by cases z) (hD_Line_spread N) N 0 _ _ _ hf
  · cases hf
def T_Line_tilt : List (List (Option RW)) := [
  [some (.aload_n 0, 1, [0], 0, 0), some (.getfield 7, 3, [4, 0, 1], 0, 0), none, none, some (.aload_n 0, 1, [0], 0, 0), some (.getfield 22, 3, [4, 4, 1], 0, 0), none, none, some (.lmul, 1, [], 0, 0), some (.aload_n 0, 1, [0], 0, 0), some (.getfield 13, 3, [4, 1, 1], 0, 0), none, none, some (.aload_n 0, 1, [0], 0, 0), some (.getfield 16, 3, [4, 2, 1], 0, 0), none, none, some (.lmul, 1, [], 0, 0), some (.lsub, 1, [], 0, 0), some (.lreturn, 1, [], 0, 0)]]
def f_Line_tilt (N : Nat) (h : MH) : Option (Int64 × MH) :=
  some (((gJ h 28 0) * (gJ h 28 4)) - ((gJ h 28 1) * (gJ h 28 2)), h)
def C_Line_tilt (N : Nat) : MC := (KDL, false, (fun _ => 0), jsB, (fun _ _ _ => none), (fun _ _ _ => none), (fun _ _ _ => none), (fun _ _ _ => none))
def D_Line_tilt (N : Nat) (n pc : Nat) (lv : ML) (st : List MV) (h : MH) : Option (Int64 × MH) :=
  match Nat.beq pc 0 with
  | true => (match lk lv 0, st with
    | some (.inr (.inr (0, 4, 28))), [] => f_Line_tilt N h
    | _, _ => none)
  | false => none
set_option maxRecDepth 1000000 in
theorem E_Line_tilt_0 (N : Nat) (n : Nat) (h : MH) : seg (C_Line_tilt N) 1 0 rJ T_Line_tilt [0] (fun q lv st h => match Nat.ble 1 q with
    | true => D_Line_tilt N n q lv st h
    | false => none) 400 true 0 [(0, .inr (.inr (0, 4, 28)))] [] h = f_Line_tilt N h := (rfl)
set_option maxRecDepth 1000000 in
theorem chk_Line_tilt : chkT 4 false prog_6_method_6_code T_Line_tilt = true := by decide +kernel
theorem mc_Line_tilt : mC 34 = prog_6_method_6_code := by rfl
theorem mx_Line_tilt : mL 34 = 1 ∧ mR 34 = some .long ∧ mK 34 = 1 ∧ (mN 34).cls = cN 4 := by decide +kernel
theorem hD_Line_tilt (N : Nat) {r : Int64 × MH} : ∀ n pc lv st h, D_Line_tilt N n pc lv st h = some r → ∃ lv', (∀ q ∈ lv', q ∈ lv) ∧ seg (C_Line_tilt N) 1 0 rJ T_Line_tilt [0] (fun q lv st h => match Nat.ble (pc + 1) q with
    | true => D_Line_tilt N n q lv st h
    | false => none) 400 true pc lv' st h = some r := by
  intro n pc lv st h hf
  unfold D_Line_tilt at hf
  split at hf
  · rename_i hb
    have hb := Nat.eq_of_beq_eq_true hb
    subst hb
    split at hf
    · rename_i e0
      exact ⟨_, (sub_cons e0 sub_nil), (E_Line_tilt_0 N n h).trans hf⟩
    · cases hf
  · skip
    cases hf
theorem hM_Line_tilt (N : Nat) {r : Int64 × MH} : ∀ n pc lv st h, D_Line_tilt N n pc lv st h = some r → pc < 20 := by
  intro n pc lv st h hf
  unfold D_Line_tilt at hf
  split at hf
  · rename_i hb
    rw [Nat.eq_of_beq_eq_true hb]
    decide
  · skip
    cases hf
theorem s_Line_tilt {l : Launch} {E : EV} {N : Nat} {as : List MV} {h : MH} {r : Int64 × MH} (hf : w_Line_tilt (f_Line_tilt N) as h = some r) : SndM l E false 0 34 as h (some (.inr (.inl r.1))) r.2 := by
  unfold w_Line_tilt at hf
  split at hf
  · obtain ⟨m1, m2, m3, m4⟩ := mx_Line_tilt
    refine snd_of (C := C_Line_tilt N) (own := 4) (rz := 0) (lim := 115) rJ_eq m2 m4 pl_34 (TB_in _ cw_34 rfl) ⟨(fun _ => ⟨_, _, _, _, _, _, rfl, rfl, by rw [m4]; rfl⟩), (fun z => by rw [m3] at z; cases z)⟩ (fun z => by cases z) KDL_take rfl rfl (fun z => by cases z) (fun z => by cases z) (fun _ => rfl) (by rw [m1]; exact Nat.le_of_ble_eq_true rfl)
      (fun _ _ _ _ z => by cases z)
      (fun _ _ _ _ z => by cases z)
      (fun _ _ _ _ z => by cases z)
      (fun _ _ _ _ z => by cases z)
      (fun p e R s m args below meth c Q n0 F hret => ?_)
    rw [m1] at F hret ⊢
    rw [mc_Line_tilt] at F hret
    exact cuts_s (K := 400) (M := 20) (D := D_Line_tilt N) (B := fun _ _ _ _ _ => none) F hret (chkT_ok chk_Line_tilt) (hM_Line_tilt N) (fun _ _ _ _ _ z => by cases z) (hD_Line_tilt N) N 0 _ _ _ hf
  · cases hf
def T_Line_restTop : List (List (Option RW)) := [
  [some (.aload_n 0, 1, [0], 0, 0), some (.getfield 7, 3, [4, 0, 1], 0, 0), none, none, some (.aload_n 0, 1, [0], 0, 0), some (.getfield 25, 3, [4, 5, 1], 0, 0), none, none, some (.lmul, 1, [], 0, 0), some (.aload_n 0, 1, [0], 0, 0), some (.getfield 16, 3, [4, 2, 1], 0, 0), none, none, some (.aload_n 0, 1, [0], 0, 0), some (.getfield 16, 3, [4, 2, 1], 0, 0), none, none, some (.lmul, 1, [], 0, 0), some (.lsub, 1, [], 0, 0), some (.aload_n 0, 1, [0], 0, 0), some (.invokevirtual 30, 3, [0, 33, 1, 1], 0, 0), none, none, some (.lmul, 1, [], 0, 0), some (.aload_n 0, 1, [0], 0, 0), some (.invokevirtual 34, 3, [0, 34, 1, 1], 0, 0), none, none, some (.aload_n 0, 1, [0], 0, 0), some (.invokevirtual 34, 3, [0, 34, 1, 1], 0, 0), none, none],
  [some (.lmul, 1, [], 0, 0), some (.lsub, 1, [], 0, 0), some (.lreturn, 1, [], 0, 0)]]
def f_Line_restTop (N : Nat) (h : MH) : Option (Int64 × MH) :=
  (f_Line_spread N h).bind (fun x1 =>
  (f_Line_tilt N x1.2).bind (fun x2 =>
  (f_Line_tilt N x2.2).bind (fun x3 =>
  some (((((gJ h 28 0) * (gJ h 28 5)) - ((gJ h 28 2) * (gJ h 28 2))) * x1.1) - (x2.1 * x3.1), x3.2))))
def C_Line_restTop (N : Nat) : MC := (KDL, false, (fun _ => 0), jsB, (fun _ _ _ => none), (fun j => match Nat.beq j 33 with
    | true => w_Line_spread (f_Line_spread N)
    | false => match Nat.beq j 34 with
    | true => w_Line_tilt (f_Line_tilt N)
    | false => fun _ _ => none), (fun _ _ _ => none), (fun _ _ _ => none))
def D_Line_restTop (N : Nat) (n pc : Nat) (lv : ML) (st : List MV) (h : MH) : Option (Int64 × MH) :=
  match Nat.beq pc 0 with
  | true => (match lk lv 0, st with
    | some (.inr (.inr (0, 4, 28))), [] => f_Line_restTop N h
    | _, _ => none)
  | false => none
set_option maxRecDepth 1000000 in
theorem E_Line_restTop_0 (N : Nat) (n : Nat) (h : MH) : seg (C_Line_restTop N) 1 0 rJ T_Line_restTop [0] (fun q lv st h => match Nat.ble 1 q with
    | true => D_Line_restTop N n q lv st h
    | false => none) 400 true 0 [(0, .inr (.inr (0, 4, 28)))] [] h = f_Line_restTop N h := (rfl)
set_option maxRecDepth 1000000 in
theorem chk_Line_restTop : chkT 4 false prog_6_method_7_code T_Line_restTop = true := by decide +kernel
theorem mc_Line_restTop : mC 35 = prog_6_method_7_code := by rfl
theorem mx_Line_restTop : mL 35 = 1 ∧ mR 35 = some .long ∧ mK 35 = 1 ∧ (mN 35).cls = cN 4 := by decide +kernel
theorem hD_Line_restTop (N : Nat) {r : Int64 × MH} : ∀ n pc lv st h, D_Line_restTop N n pc lv st h = some r → ∃ lv', (∀ q ∈ lv', q ∈ lv) ∧ seg (C_Line_restTop N) 1 0 rJ T_Line_restTop [0] (fun q lv st h => match Nat.ble (pc + 1) q with
    | true => D_Line_restTop N n q lv st h
    | false => none) 400 true pc lv' st h = some r := by
  intro n pc lv st h hf
  unfold D_Line_restTop at hf
  split at hf
  · rename_i hb
    have hb := Nat.eq_of_beq_eq_true hb
    subst hb
    split at hf
    · rename_i e0
      exact ⟨_, (sub_cons e0 sub_nil), (E_Line_restTop_0 N n h).trans hf⟩
    · cases hf
  · skip
    cases hf
theorem hM_Line_restTop (N : Nat) {r : Int64 × MH} : ∀ n pc lv st h, D_Line_restTop N n pc lv st h = some r → pc < 35 := by
  intro n pc lv st h hf
  unfold D_Line_restTop at hf
  split at hf
  · rename_i hb
    rw [Nat.eq_of_beq_eq_true hb]
    decide
  · skip
    cases hf
theorem s_Line_restTop {l : Launch} {E : EV} {N : Nat} {as : List MV} {h : MH} {r : Int64 × MH} (hf : w_Line_restTop (f_Line_restTop N) as h = some r) : SndM l E false 1 35 as h (some (.inr (.inl r.1))) r.2 := by
  unfold w_Line_restTop at hf
  split at hf
  · obtain ⟨m1, m2, m3, m4⟩ := mx_Line_restTop
    refine snd_of (C := C_Line_restTop N) (own := 4) (rz := 0) (lim := 115) rJ_eq m2 m4 pl_35 (TB_in _ cw_35 rfl) ⟨(fun _ => ⟨_, _, _, _, _, _, rfl, rfl, by rw [m4]; rfl⟩), (fun z => by rw [m3] at z; cases z)⟩ (fun z => by cases z) KDL_take rfl rfl (fun z => by cases z) (fun z => by cases z) (fun _ => rfl) (by rw [m1]; exact Nat.le_of_ble_eq_true rfl)
      (fun _ _ _ _ z => by cases z)
      (fun j as h x z => by
      dsimp only [C_Line_restTop] at z
      cases hb : Nat.beq j 33 with
      | true =>
        have hb := Nat.eq_of_beq_eq_true hb
        subst hb
        exact ⟨0, by decide, (fun z => by cases z), s_Line_spread z⟩
      | false =>
        rw [hb] at z
        dsimp only at z
        cases hb : Nat.beq j 34 with
        | true =>
          have hb := Nat.eq_of_beq_eq_true hb
          subst hb
          exact ⟨0, by decide, (fun z => by cases z), s_Line_tilt z⟩
        | false =>
          rw [hb] at z
          dsimp only at z
          cases z)
      (fun _ _ _ _ z => by cases z)
      (fun _ _ _ _ z => by cases z)
      (fun p e R s m args below meth c Q n0 F hret => ?_)
    rw [m1] at F hret ⊢
    rw [mc_Line_restTop] at F hret
    exact cuts_s (K := 400) (M := 35) (D := D_Line_restTop N) (B := fun _ _ _ _ _ => none) F hret (chkT_ok chk_Line_restTop) (hM_Line_restTop N) (fun _ _ _ _ _ z => by cases z) (hD_Line_restTop N) N 0 _ _ _ hf
  · cases hf
def T_Line_restBottom : List (List (Option RW)) := [
  [some (.aload_n 0, 1, [0], 0, 0), some (.getfield 7, 3, [4, 0, 1], 0, 0), none, none, some (.aload_n 0, 1, [0], 0, 0), some (.invokevirtual 30, 3, [0, 33, 1, 1], 0, 0), none, none, some (.lmul, 1, [], 0, 0), some (.lreturn, 1, [], 0, 0)]]
def f_Line_restBottom (N : Nat) (h : MH) : Option (Int64 × MH) :=
  (f_Line_spread N h).bind (fun x1 =>
  some ((gJ h 28 0) * x1.1, x1.2))
def C_Line_restBottom (N : Nat) : MC := (KDL, false, (fun _ => 0), jsB, (fun _ _ _ => none), (fun j => match Nat.beq j 33 with
    | true => w_Line_spread (f_Line_spread N)
    | false => fun _ _ => none), (fun _ _ _ => none), (fun _ _ _ => none))
def D_Line_restBottom (N : Nat) (n pc : Nat) (lv : ML) (st : List MV) (h : MH) : Option (Int64 × MH) :=
  match Nat.beq pc 0 with
  | true => (match lk lv 0, st with
    | some (.inr (.inr (0, 4, 28))), [] => f_Line_restBottom N h
    | _, _ => none)
  | false => none
set_option maxRecDepth 1000000 in
theorem E_Line_restBottom_0 (N : Nat) (n : Nat) (h : MH) : seg (C_Line_restBottom N) 1 0 rJ T_Line_restBottom [0] (fun q lv st h => match Nat.ble 1 q with
    | true => D_Line_restBottom N n q lv st h
    | false => none) 400 true 0 [(0, .inr (.inr (0, 4, 28)))] [] h = f_Line_restBottom N h := (rfl)
set_option maxRecDepth 1000000 in
theorem chk_Line_restBottom : chkT 4 false prog_6_method_8_code T_Line_restBottom = true := by decide +kernel
theorem mc_Line_restBottom : mC 36 = prog_6_method_8_code := by rfl
theorem mx_Line_restBottom : mL 36 = 1 ∧ mR 36 = some .long ∧ mK 36 = 1 ∧ (mN 36).cls = cN 4 := by decide +kernel
theorem hD_Line_restBottom (N : Nat) {r : Int64 × MH} : ∀ n pc lv st h, D_Line_restBottom N n pc lv st h = some r → ∃ lv', (∀ q ∈ lv', q ∈ lv) ∧ seg (C_Line_restBottom N) 1 0 rJ T_Line_restBottom [0] (fun q lv st h => match Nat.ble (pc + 1) q with
    | true => D_Line_restBottom N n q lv st h
    | false => none) 400 true pc lv' st h = some r := by
  intro n pc lv st h hf
  unfold D_Line_restBottom at hf
  split at hf
  · rename_i hb
    have hb := Nat.eq_of_beq_eq_true hb
    subst hb
    split at hf
    · rename_i e0
      exact ⟨_, (sub_cons e0 sub_nil), (E_Line_restBottom_0 N n h).trans hf⟩
    · cases hf
  · skip
    cases hf
theorem hM_Line_restBottom (N : Nat) {r : Int64 × MH} : ∀ n pc lv st h, D_Line_restBottom N n pc lv st h = some r → pc < 10 := by
  intro n pc lv st h hf
  unfold D_Line_restBottom at hf
  split at hf
  · rename_i hb
    rw [Nat.eq_of_beq_eq_true hb]
    decide
  · skip
    cases hf
theorem s_Line_restBottom {l : Launch} {E : EV} {N : Nat} {as : List MV} {h : MH} {r : Int64 × MH} (hf : w_Line_restBottom (f_Line_restBottom N) as h = some r) : SndM l E false 1 36 as h (some (.inr (.inl r.1))) r.2 := by
  unfold w_Line_restBottom at hf
  split at hf
  · obtain ⟨m1, m2, m3, m4⟩ := mx_Line_restBottom
    refine snd_of (C := C_Line_restBottom N) (own := 4) (rz := 0) (lim := 115) rJ_eq m2 m4 pl_36 (TB_in _ cw_36 rfl) ⟨(fun _ => ⟨_, _, _, _, _, _, rfl, rfl, by rw [m4]; rfl⟩), (fun z => by rw [m3] at z; cases z)⟩ (fun z => by cases z) KDL_take rfl rfl (fun z => by cases z) (fun z => by cases z) (fun _ => rfl) (by rw [m1]; exact Nat.le_of_ble_eq_true rfl)
      (fun _ _ _ _ z => by cases z)
      (fun j as h x z => by
      dsimp only [C_Line_restBottom] at z
      cases hb : Nat.beq j 33 with
      | true =>
        have hb := Nat.eq_of_beq_eq_true hb
        subst hb
        exact ⟨0, by decide, (fun z => by cases z), s_Line_spread z⟩
      | false =>
        rw [hb] at z
        dsimp only at z
        cases z)
      (fun _ _ _ _ z => by cases z)
      (fun _ _ _ _ z => by cases z)
      (fun p e R s m args below meth c Q n0 F hret => ?_)
    rw [m1] at F hret ⊢
    rw [mc_Line_restBottom] at F hret
    exact cuts_s (K := 400) (M := 10) (D := D_Line_restBottom N) (B := fun _ _ _ _ _ => none) F hret (chkT_ok chk_Line_restBottom) (hM_Line_restBottom N) (fun _ _ _ _ _ z => by cases z) (hD_Line_restBottom N) N 0 _ _ _ hf
  · cases hf
def T_Line_wholeRest : List (List (Option RW)) := [
  [some (.aload_n 0, 1, [0], 0, 0), some (.invokevirtual 37, 3, [0, 36, 1, 1], 0, 0), none, none, some (.lstore_n 1, 1, [1], 0, 0), some (.lload_n 1, 1, [1], 0, 0), some (.lconst 0, 1, [], 0, 0), some (.lcmp, 1, [], 0, 0), some (.ifCond .le 12, 3, [20], 0, 0), none, none, some (.aload_n 0, 1, [0], 0, 0), some (.invokevirtual 40, 3, [0, 35, 1, 1], 0, 0), none, none, some (.lload_n 1, 1, [1], 0, 0), some (.ldiv, 1, [], 0, 0), some (.goto 4, 3, [21], 0, 0), none, none, some (.lconst 0, 1, [], 0, 0), some (.lreturn, 1, [], 0, 0)]]
def f_Line_wholeRest (N : Nat) (h : MH) : Option (Int64 × MH) :=
  (f_Line_restBottom N h).bind (fun x1 =>
  if (lg_cmp x1.1 0) ≤ 0 then
  (some (0, x1.2))
  else
  ((f_Line_restTop N x1.2).bind (fun x2 =>
  if x1.1 = 0 then none else
  some (x2.1 / x1.1, x2.2))))
def C_Line_wholeRest (N : Nat) : MC := (KDL, false, (fun _ => 0), jsB, (fun _ _ _ => none), (fun j => match Nat.beq j 35 with
    | true => w_Line_restTop (f_Line_restTop N)
    | false => match Nat.beq j 36 with
    | true => w_Line_restBottom (f_Line_restBottom N)
    | false => fun _ _ => none), (fun _ _ _ => none), (fun _ _ _ => none))
def D_Line_wholeRest (N : Nat) (n pc : Nat) (lv : ML) (st : List MV) (h : MH) : Option (Int64 × MH) :=
  match Nat.beq pc 0 with
  | true => (match lk lv 0, st with
    | some (.inr (.inr (0, 4, 28))), [] => f_Line_wholeRest N h
    | _, _ => none)
  | false => none
set_option maxRecDepth 1000000 in
theorem E_Line_wholeRest_0 (N : Nat) (n : Nat) (h : MH) : seg (C_Line_wholeRest N) 3 0 rJ T_Line_wholeRest [0] (fun q lv st h => match Nat.ble 1 q with
    | true => D_Line_wholeRest N n q lv st h
    | false => none) 400 true 0 [(0, .inr (.inr (0, 4, 28)))] [] h = f_Line_wholeRest N h := (rfl)
set_option maxRecDepth 1000000 in
theorem chk_Line_wholeRest : chkT 4 false prog_6_method_9_code T_Line_wholeRest = true := by decide +kernel
theorem mc_Line_wholeRest : mC 37 = prog_6_method_9_code := by rfl
theorem mx_Line_wholeRest : mL 37 = 3 ∧ mR 37 = some .long ∧ mK 37 = 1 ∧ (mN 37).cls = cN 4 := by decide +kernel
theorem hD_Line_wholeRest (N : Nat) {r : Int64 × MH} : ∀ n pc lv st h, D_Line_wholeRest N n pc lv st h = some r → ∃ lv', (∀ q ∈ lv', q ∈ lv) ∧ seg (C_Line_wholeRest N) 3 0 rJ T_Line_wholeRest [0] (fun q lv st h => match Nat.ble (pc + 1) q with
    | true => D_Line_wholeRest N n q lv st h
    | false => none) 400 true pc lv' st h = some r := by
  intro n pc lv st h hf
  unfold D_Line_wholeRest at hf
  split at hf
  · rename_i hb
    have hb := Nat.eq_of_beq_eq_true hb
    subst hb
    split at hf
    · rename_i e0
      exact ⟨_, (sub_cons e0 sub_nil), (E_Line_wholeRest_0 N n h).trans hf⟩
    · cases hf
  · skip
    cases hf
theorem hM_Line_wholeRest (N : Nat) {r : Int64 × MH} : ∀ n pc lv st h, D_Line_wholeRest N n pc lv st h = some r → pc < 22 := by
  intro n pc lv st h hf
  unfold D_Line_wholeRest at hf
  split at hf
  · rename_i hb
    rw [Nat.eq_of_beq_eq_true hb]
    decide
  · skip
    cases hf
theorem s_Line_wholeRest {l : Launch} {E : EV} {N : Nat} {as : List MV} {h : MH} {r : Int64 × MH} (hf : w_Line_wholeRest (f_Line_wholeRest N) as h = some r) : SndM l E false 2 37 as h (some (.inr (.inl r.1))) r.2 := by
  unfold w_Line_wholeRest at hf
  split at hf
  · obtain ⟨m1, m2, m3, m4⟩ := mx_Line_wholeRest
    refine snd_of (C := C_Line_wholeRest N) (own := 4) (rz := 0) (lim := 115) rJ_eq m2 m4 pl_37 (TB_in _ cw_37 rfl) ⟨(fun _ => ⟨_, _, _, _, _, _, rfl, rfl, by rw [m4]; rfl⟩), (fun z => by rw [m3] at z; cases z)⟩ (fun z => by cases z) KDL_take rfl rfl (fun z => by cases z) (fun z => by cases z) (fun _ => rfl) (by rw [m1]; exact Nat.le_of_ble_eq_true rfl)
      (fun _ _ _ _ z => by cases z)
      (fun j as h x z => by
      dsimp only [C_Line_wholeRest] at z
      cases hb : Nat.beq j 35 with
      | true =>
        have hb := Nat.eq_of_beq_eq_true hb
        subst hb
        exact ⟨1, by decide, (fun z => by cases z), s_Line_restTop z⟩
      | false =>
        rw [hb] at z
        dsimp only at z
        cases hb : Nat.beq j 36 with
        | true =>
          have hb := Nat.eq_of_beq_eq_true hb
          subst hb
          exact ⟨1, by decide, (fun z => by cases z), s_Line_restBottom z⟩
        | false =>
          rw [hb] at z
          dsimp only at z
          cases z)
      (fun _ _ _ _ z => by cases z)
      (fun _ _ _ _ z => by cases z)
      (fun p e R s m args below meth c Q n0 F hret => ?_)
    rw [m1] at F hret ⊢
    rw [mc_Line_wholeRest] at F hret
    exact cuts_s (K := 400) (M := 22) (D := D_Line_wholeRest N) (B := fun _ _ _ _ _ => none) F hret (chkT_ok chk_Line_wholeRest) (hM_Line_wholeRest N) (fun _ _ _ _ _ z => by cases z) (hD_Line_wholeRest N) N 0 _ _ _ hf
  · cases hf
def T_Ledger_breakYear : List (List (Option RW)) := [
  [some (.iconst (-1), 1, [], (-1), 0), some (.istore_n 2, 1, [2], 0, 0), some (.lconst 0, 1, [], 0, 0), some (.lstore_n 3, 1, [3], 0, 0), some (.iconst 0, 1, [], 0, 0), some (.istore 5, 2, [5], 0, 0), none, some (.iload 5, 2, [5], 0, 0), none, some (.bipush 20, 2, [], 20, 0), none, some (.if_icmp .ge 78, 3, [89], 0, 0), none, none, some (.aload_n 0, 1, [0], 0, 0), some (.aload_n 1, 1, [1], 0, 0), some (.iconst 0, 1, [], 0, 0), some (.iload 5, 2, [5], 0, 0), none, some (.iconst 1, 1, [], 1, 0), some (.isub, 1, [], 0, 0), some (.invokevirtual 78, 3, [0, 24, 4, 3], 0, 0), none, none, some (.aload_n 1, 1, [1], 0, 0), some (.invokevirtual 82, 3, [1, 32, 1, 0], 0, 0), none, none, some (.istore 6, 2, [6], 0, 0), none, some (.aload_n 1, 1, [1], 0, 0), some (.invokevirtual 86, 3, [1, 37, 1, 1], 0, 0)],
  [none, none, some (.lstore 7, 2, [7], 0, 0), none, some (.aload_n 0, 1, [0], 0, 0), some (.aload_n 1, 1, [1], 0, 0), some (.iload 5, 2, [5], 0, 0), none, some (.bipush 19, 2, [], 19, 0), none, some (.invokevirtual 78, 3, [0, 24, 4, 3], 0, 0), none, none, some (.lload 7, 2, [7], 0, 0), none, some (.aload_n 1, 1, [1], 0, 0), some (.invokevirtual 86, 3, [1, 37, 1, 1], 0, 0), none, none, some (.ladd, 1, [], 0, 0), some (.lstore 7, 2, [7], 0, 0), none, some (.iload 6, 2, [6], 0, 0), none, some (.ifCond .eq 27, 3, [83], 0, 0), none, none, some (.aload_n 1, 1, [1], 0, 0), some (.invokevirtual 82, 3, [1, 32, 1, 0], 0, 0), none, none, some (.ifCond .eq 20, 3, [83], 0, 0)],
  [none, none, some (.iload_n 2, 1, [2], 0, 0), some (.ifCond .lt 10, 3, [77], 0, 0), none, none, some (.lload 7, 2, [7], 0, 0), none, some (.lload_n 3, 1, [3], 0, 0), some (.lcmp, 1, [], 0, 0), some (.ifCond .ge 9, 3, [83], 0, 0), none, none, some (.iload 5, 2, [5], 0, 0), none, some (.istore_n 2, 1, [2], 0, 0), some (.lload 7, 2, [7], 0, 0), none, some (.lstore_n 3, 1, [3], 0, 0), some (.iinc 5 1, 3, [5], 1, 0), none, none, some (.goto (-79), 3, [7], 0, 0), none, none, some (.iload_n 2, 1, [2], 0, 0), some (.ireturn, 1, [], 0, 0)]]
def F_Ledger_breakYear_7 (N : Nat) (bk : (Int32 → Int64 → Int32 → MH → Option (Int32 × MH))) (a2 : Int32) (a3 : Int64) (a5 : Int32) (h : MH) : Option (Int32 × MH) :=
  if 20 ≤ a5 then
  (some (a2, h))
  else
  ((f_Ledger_fit N 0 (a5 - 1) h).bind (fun x1 =>
  (f_Line_stands N x1).bind (fun x2 =>
  (f_Line_wholeRest N x2.2).bind (fun x3 =>
  (f_Ledger_fit N a5 19 x3.2).bind (fun x4 =>
  (f_Line_wholeRest N x4).bind (fun x5 =>
  let v6 : Int64 := x3.1 + x5.1
  if x2.1 = 0 then
  (let v7 : Int32 := a5 + 1
  bk a2 a3 v7 x5.2)
  else
  ((f_Line_stands N x5.2).bind (fun x8 =>
  if x8.1 = 0 then
  (let v9 : Int32 := a5 + 1
  bk a2 a3 v9 x8.2)
  else
  (if a2 < 0 then
  (let v10 : Int32 := a5 + 1
  bk a5 v6 v10 x8.2)
  else
  (if 0 ≤ (lg_cmp v6 a3) then
  (let v11 : Int32 := a5 + 1
  bk a2 a3 v11 x8.2)
  else
  (let v12 : Int32 := a5 + 1
  bk a5 v6 v12 x8.2)))))))))))
def F_Ledger_breakYear_0 (N : Nat) (bk : (Int32 → Int64 → Int32 → MH → Option (Int32 × MH))) (h : MH) : Option (Int32 × MH) :=
  F_Ledger_breakYear_7 N bk ((-1)) 0 0 h
def L_Ledger_breakYear (N : Nat) : Nat → (Int32 → Int64 → Int32 → MH → Option (Int32 × MH))
  | 0 => fun _ _ _ _ => none
  | n + 1 => F_Ledger_breakYear_7 N (L_Ledger_breakYear N n)
def f_Ledger_breakYear (N : Nat) (h : MH) : Option (Int32 × MH) := F_Ledger_breakYear_0 N (L_Ledger_breakYear N N) h
def C_Ledger_breakYear (N : Nat) : MC := (KDL, false, (fun _ => 0), jsB, (fun j => match Nat.beq j 32 with
    | true => w_Line_stands (f_Line_stands N)
    | false => fun _ _ => none), (fun j => match Nat.beq j 37 with
    | true => w_Line_wholeRest (f_Line_wholeRest N)
    | false => fun _ _ => none), (fun _ _ _ => none), (fun j => match Nat.beq j 24 with
    | true => w_Ledger_fit (f_Ledger_fit N)
    | false => fun _ _ => none))
def D_Ledger_breakYear (N : Nat) (n pc : Nat) (lv : ML) (st : List MV) (h : MH) : Option (Int32 × MH) :=
  match Nat.beq pc 0 with
  | true => (match lk lv 0, lk lv 1, st with
    | some (.inr (.inr (0, 3, 16))), some (.inr (.inr (0, 4, 28))), [] => F_Ledger_breakYear_0 N (L_Ledger_breakYear N n) h
    | _, _, _ => none)
  | false => match Nat.beq pc 7 with
  | true => (match lk lv 0, lk lv 1, lk lv 2, lk lv 3, lk lv 5, st with
    | some (.inr (.inr (0, 3, 16))), some (.inr (.inr (0, 4, 28))), some (.inl a2), some (.inr (.inl a3)), some (.inl a5), [] => F_Ledger_breakYear_7 N (L_Ledger_breakYear N n) a2 a3 a5 h
    | _, _, _, _, _, _ => none)
  | false => none
def B_Ledger_breakYear (N : Nat) (n pc : Nat) (lv : ML) (st : List MV) (h : MH) : Option (Int32 × MH) :=
  match Nat.beq pc 7 with
  | true => (match lk lv 0, lk lv 1, lk lv 2, lk lv 3, lk lv 5, st with
    | some (.inr (.inr (0, 3, 16))), some (.inr (.inr (0, 4, 28))), some (.inl a2), some (.inr (.inl a3)), some (.inl a5), [] => ((L_Ledger_breakYear N n)) a2 a3 a5 h
    | _, _, _, _, _, _ => none)
  | false => none
set_option maxRecDepth 1000000 in
theorem E_Ledger_breakYear_0 (N : Nat) (n : Nat) (h : MH) : seg (C_Ledger_breakYear N) 9 0 rI T_Ledger_breakYear [0, 7] (fun q lv st h => match Nat.ble 1 q with
    | true => D_Ledger_breakYear N n q lv st h
    | false => B_Ledger_breakYear N n q lv st h) 400 true 0 [(0, .inr (.inr (0, 3, 16))), (1, .inr (.inr (0, 4, 28)))] [] h = F_Ledger_breakYear_0 N (L_Ledger_breakYear N n) h := (rfl)
set_option maxRecDepth 1000000 in
theorem E_Ledger_breakYear_7 (N : Nat) (n : Nat) (a2 : Int32) (a3 : Int64) (a5 : Int32) (h : MH) : seg (C_Ledger_breakYear N) 9 0 rI T_Ledger_breakYear [0, 7] (fun q lv st h => match Nat.ble 8 q with
    | true => D_Ledger_breakYear N n q lv st h
    | false => B_Ledger_breakYear N n q lv st h) 400 true 7 [(0, .inr (.inr (0, 3, 16))), (1, .inr (.inr (0, 4, 28))), (2, .inl a2), (3, .inr (.inl a3)), (5, .inl a5)] [] h = F_Ledger_breakYear_7 N (L_Ledger_breakYear N n) a2 a3 a5 h := (rfl)
set_option maxRecDepth 1000000 in
theorem chk_Ledger_breakYear : chkT 3 false prog_5_method_9_code T_Ledger_breakYear = true := by decide +kernel
theorem mc_Ledger_breakYear : mC 25 = prog_5_method_9_code := by rfl
theorem mx_Ledger_breakYear : mL 25 = 9 ∧ mR 25 = some .int ∧ mK 25 = 1 ∧ (mN 25).cls = cN 3 := by decide +kernel
theorem hD_Ledger_breakYear (N : Nat) {r : Int32 × MH} : ∀ n pc lv st h, D_Ledger_breakYear N n pc lv st h = some r → ∃ lv', (∀ q ∈ lv', q ∈ lv) ∧ seg (C_Ledger_breakYear N) 9 0 rI T_Ledger_breakYear [0, 7] (fun q lv st h => match Nat.ble (pc + 1) q with
    | true => D_Ledger_breakYear N n q lv st h
    | false => B_Ledger_breakYear N n q lv st h) 400 true pc lv' st h = some r := by
  intro n pc lv st h hf
  unfold D_Ledger_breakYear at hf
  split at hf
  · rename_i hb
    have hb := Nat.eq_of_beq_eq_true hb
    subst hb
    split at hf
    · rename_i e0 e1
      exact ⟨_, (sub_cons e0 (sub_cons e1 sub_nil)), (E_Ledger_breakYear_0 N n h).trans hf⟩
    · cases hf
  · skip
    split at hf
    · rename_i hb
      have hb := Nat.eq_of_beq_eq_true hb
      subst hb
      split at hf
      · rename_i y0 y1 y2 e0 e1 e2 e3 e4
        exact ⟨_, (sub_cons e0 (sub_cons e1 (sub_cons e2 (sub_cons e3 (sub_cons e4 sub_nil))))), (E_Ledger_breakYear_7 N n _ _ _ h).trans hf⟩
      · cases hf
    · skip
      cases hf
theorem hM_Ledger_breakYear (N : Nat) {r : Int32 × MH} : ∀ n pc lv st h, D_Ledger_breakYear N n pc lv st h = some r → pc < 91 := by
  intro n pc lv st h hf
  unfold D_Ledger_breakYear at hf
  split at hf
  · rename_i hb
    rw [Nat.eq_of_beq_eq_true hb]
    decide
  · skip
    split at hf
    · rename_i hb
      rw [Nat.eq_of_beq_eq_true hb]
      decide
    · skip
      cases hf
theorem hB_Ledger_breakYear (N : Nat) {r : Int32 × MH} : ∀ n pc lv st h, B_Ledger_breakYear N n pc lv st h = some r → ∃ k, n = k + 1 ∧ D_Ledger_breakYear N k pc lv st h = some r := by
  intro n pc lv st h hf
  unfold B_Ledger_breakYear at hf
  split at hf
  · rename_i hb
    have hb := Nat.eq_of_beq_eq_true hb
    subst hb
    cases n with
    | zero =>
      split at hf
      · cases hf
      · cases hf
    | succ k =>
      refine ⟨k, rfl, ?_⟩
      exact hf
  · skip
    cases hf
theorem s_Ledger_breakYear {l : Launch} {E : EV} {N : Nat} {as : List MV} {h : MH} {r : Int32 × MH} (hf : w_Ledger_breakYear (f_Ledger_breakYear N) as h = some r) : SndM l E false 3 25 as h (some (.inl r.1)) r.2 := by
  unfold w_Ledger_breakYear at hf
  split at hf
  · obtain ⟨m1, m2, m3, m4⟩ := mx_Ledger_breakYear
    refine snd_of (C := C_Ledger_breakYear N) (own := 3) (rz := 0) (lim := 115) rI_eq m2 m4 pl_25 (TB_in _ cw_25 rfl) ⟨(fun _ => ⟨_, _, _, _, _, _, rfl, rfl, by rw [m4]; rfl⟩), (fun z => by rw [m3] at z; cases z)⟩ (fun z => by cases z) KDL_take rfl rfl (fun z => by cases z) (fun z => by cases z) (fun _ => rfl) (by rw [m1]; exact Nat.le_of_ble_eq_true rfl)
      (fun j as h x z => by
      dsimp only [C_Ledger_breakYear] at z
      cases hb : Nat.beq j 32 with
      | true =>
        have hb := Nat.eq_of_beq_eq_true hb
        subst hb
        exact ⟨0, by decide, (fun z => by cases z), s_Line_stands z⟩
      | false =>
        rw [hb] at z
        dsimp only at z
        cases z)
      (fun j as h x z => by
      dsimp only [C_Ledger_breakYear] at z
      cases hb : Nat.beq j 37 with
      | true =>
        have hb := Nat.eq_of_beq_eq_true hb
        subst hb
        exact ⟨2, by decide, (fun z => by cases z), s_Line_wholeRest z⟩
      | false =>
        rw [hb] at z
        dsimp only at z
        cases z)
      (fun _ _ _ _ z => by cases z)
      (fun j as h x z => by
      dsimp only [C_Ledger_breakYear] at z
      cases hb : Nat.beq j 24 with
      | true =>
        have hb := Nat.eq_of_beq_eq_true hb
        subst hb
        exact ⟨1, by decide, (fun z => by cases z), s_Ledger_fit z⟩
      | false =>
        rw [hb] at z
        dsimp only at z
        cases z)
      (fun p e R s m args below meth c Q n0 F hret => ?_)
    rw [m1] at F hret ⊢
    rw [mc_Ledger_breakYear] at F hret
    exact cuts_s (K := 400) (M := 91) (D := D_Ledger_breakYear N) (B := B_Ledger_breakYear N) F hret (chkT_ok chk_Ledger_breakYear) (hM_Ledger_breakYear N) (hB_Ledger_breakYear N) (hD_Ledger_breakYear N) N 0 _ _ _ hf
  · cases hf
def T_Line_scaled : List (List (Option RW)) := [
  [some (.lload_n 1, 1, [1], 0, 0), some (.aload_n 0, 1, [0], 0, 0), some (.invokevirtual 37, 3, [0, 36, 1, 1], 0, 0), none, none, some (.lmul, 1, [], 0, 0), some (.lreturn, 1, [], 0, 0)]]
def f_Line_scaled (N : Nat) (a1 : Int64) (h : MH) : Option (Int64 × MH) :=
  (f_Line_restBottom N h).bind (fun x1 =>
  some (a1 * x1.1, x1.2))
def C_Line_scaled (N : Nat) : MC := (KDL, false, (fun _ => 0), jsB, (fun _ _ _ => none), (fun j => match Nat.beq j 36 with
    | true => w_Line_restBottom (f_Line_restBottom N)
    | false => fun _ _ => none), (fun _ _ _ => none), (fun _ _ _ => none))
def D_Line_scaled (N : Nat) (n pc : Nat) (lv : ML) (st : List MV) (h : MH) : Option (Int64 × MH) :=
  match Nat.beq pc 0 with
  | true => (match lk lv 0, lk lv 1, st with
    | some (.inr (.inr (0, 4, 28))), some (.inr (.inl a1)), [] => f_Line_scaled N a1 h
    | _, _, _ => none)
  | false => none
set_option maxRecDepth 1000000 in
theorem E_Line_scaled_0 (N : Nat) (n : Nat) (a1 : Int64) (h : MH) : seg (C_Line_scaled N) 3 0 rJ T_Line_scaled [0] (fun q lv st h => match Nat.ble 1 q with
    | true => D_Line_scaled N n q lv st h
    | false => none) 400 true 0 [(0, .inr (.inr (0, 4, 28))), (1, .inr (.inl a1))] [] h = f_Line_scaled N a1 h := (rfl)
set_option maxRecDepth 1000000 in
theorem chk_Line_scaled : chkT 4 false prog_6_method_10_code T_Line_scaled = true := by decide +kernel
theorem mc_Line_scaled : mC 38 = prog_6_method_10_code := by rfl
theorem mx_Line_scaled : mL 38 = 3 ∧ mR 38 = some .long ∧ mK 38 = 1 ∧ (mN 38).cls = cN 4 := by decide +kernel
theorem hD_Line_scaled (N : Nat) {r : Int64 × MH} : ∀ n pc lv st h, D_Line_scaled N n pc lv st h = some r → ∃ lv', (∀ q ∈ lv', q ∈ lv) ∧ seg (C_Line_scaled N) 3 0 rJ T_Line_scaled [0] (fun q lv st h => match Nat.ble (pc + 1) q with
    | true => D_Line_scaled N n q lv st h
    | false => none) 400 true pc lv' st h = some r := by
  intro n pc lv st h hf
  unfold D_Line_scaled at hf
  split at hf
  · rename_i hb
    have hb := Nat.eq_of_beq_eq_true hb
    subst hb
    split at hf
    · rename_i y0 e0 e1
      exact ⟨_, (sub_cons e0 (sub_cons e1 sub_nil)), (E_Line_scaled_0 N n _ h).trans hf⟩
    · cases hf
  · skip
    cases hf
theorem hM_Line_scaled (N : Nat) {r : Int64 × MH} : ∀ n pc lv st h, D_Line_scaled N n pc lv st h = some r → pc < 7 := by
  intro n pc lv st h hf
  unfold D_Line_scaled at hf
  split at hf
  · rename_i hb
    rw [Nat.eq_of_beq_eq_true hb]
    decide
  · skip
    cases hf
theorem s_Line_scaled {l : Launch} {E : EV} {N : Nat} {as : List MV} {h : MH} {r : Int64 × MH} (hf : w_Line_scaled (f_Line_scaled N) as h = some r) : SndM l E false 2 38 as h (some (.inr (.inl r.1))) r.2 := by
  unfold w_Line_scaled at hf
  split at hf
  · obtain ⟨m1, m2, m3, m4⟩ := mx_Line_scaled
    refine snd_of (C := C_Line_scaled N) (own := 4) (rz := 0) (lim := 115) rJ_eq m2 m4 pl_38 (TB_in _ cw_38 rfl) ⟨(fun _ => ⟨_, _, _, _, _, _, rfl, rfl, by rw [m4]; rfl⟩), (fun z => by rw [m3] at z; cases z)⟩ (fun z => by cases z) KDL_take rfl rfl (fun z => by cases z) (fun z => by cases z) (fun _ => rfl) (by rw [m1]; exact Nat.le_of_ble_eq_true rfl)
      (fun _ _ _ _ z => by cases z)
      (fun j as h x z => by
      dsimp only [C_Line_scaled] at z
      cases hb : Nat.beq j 36 with
      | true =>
        have hb := Nat.eq_of_beq_eq_true hb
        subst hb
        exact ⟨1, by decide, (fun z => by cases z), s_Line_restBottom z⟩
      | false =>
        rw [hb] at z
        dsimp only at z
        cases z)
      (fun _ _ _ _ z => by cases z)
      (fun _ _ _ _ z => by cases z)
      (fun p e R s m args below meth c Q n0 F hret => ?_)
    rw [m1] at F hret ⊢
    rw [mc_Line_scaled] at F hret
    exact cuts_s (K := 400) (M := 7) (D := D_Line_scaled N) (B := fun _ _ _ _ _ => none) F hret (chkT_ok chk_Line_scaled) (hM_Line_scaled N) (fun _ _ _ _ _ z => by cases z) (hD_Line_scaled N) N 0 _ _ _ hf
  · cases hf
def T_Line_scaledAbove : List (List (Option RW)) := [
  [some (.aload_n 0, 1, [0], 0, 0), some (.lload_n 3, 1, [3], 0, 0), some (.invokevirtual 43, 3, [0, 38, 2, 1], 0, 0), none, none, some (.aload_n 0, 1, [0], 0, 0), some (.invokevirtual 30, 3, [0, 33, 1, 1], 0, 0), none, none, some (.aload_n 0, 1, [0], 0, 0), some (.getfield 16, 3, [4, 2, 1], 0, 0), none, none, some (.lmul, 1, [], 0, 0), some (.lsub, 1, [], 0, 0), some (.aload_n 0, 1, [0], 0, 0), some (.invokevirtual 34, 3, [0, 34, 1, 1], 0, 0), none, none, some (.aload_n 0, 1, [0], 0, 0), some (.getfield 7, 3, [4, 0, 1], 0, 0), none, none, some (.lload_n 1, 1, [1], 0, 0), some (.lmul, 1, [], 0, 0), some (.aload_n 0, 1, [0], 0, 0), some (.getfield 13, 3, [4, 1, 1], 0, 0), none, none, some (.lsub, 1, [], 0, 0), some (.lmul, 1, [], 0, 0), some (.lsub, 1, [], 0, 0)],
  [some (.lreturn, 1, [], 0, 0)]]
def f_Line_scaledAbove (N : Nat) (a1 : Int64) (a3 : Int64) (h : MH) : Option (Int64 × MH) :=
  (f_Line_scaled N a3 h).bind (fun x1 =>
  (f_Line_spread N x1.2).bind (fun x2 =>
  (f_Line_tilt N x2.2).bind (fun x3 =>
  some ((x1.1 - (x2.1 * (gJ x2.2 28 2))) - (x3.1 * (((gJ x3.2 28 0) * a1) - (gJ x3.2 28 1))), x3.2))))
def C_Line_scaledAbove (N : Nat) : MC := (KDL, false, (fun _ => 0), jsB, (fun _ _ _ => none), (fun j => match Nat.beq j 33 with
    | true => w_Line_spread (f_Line_spread N)
    | false => match Nat.beq j 34 with
    | true => w_Line_tilt (f_Line_tilt N)
    | false => match Nat.beq j 38 with
    | true => w_Line_scaled (f_Line_scaled N)
    | false => fun _ _ => none), (fun _ _ _ => none), (fun _ _ _ => none))
def D_Line_scaledAbove (N : Nat) (n pc : Nat) (lv : ML) (st : List MV) (h : MH) : Option (Int64 × MH) :=
  match Nat.beq pc 0 with
  | true => (match lk lv 0, lk lv 1, lk lv 3, st with
    | some (.inr (.inr (0, 4, 28))), some (.inr (.inl a1)), some (.inr (.inl a3)), [] => f_Line_scaledAbove N a1 a3 h
    | _, _, _, _ => none)
  | false => none
set_option maxRecDepth 1000000 in
theorem E_Line_scaledAbove_0 (N : Nat) (n : Nat) (a1 : Int64) (a3 : Int64) (h : MH) : seg (C_Line_scaledAbove N) 5 0 rJ T_Line_scaledAbove [0] (fun q lv st h => match Nat.ble 1 q with
    | true => D_Line_scaledAbove N n q lv st h
    | false => none) 400 true 0 [(0, .inr (.inr (0, 4, 28))), (1, .inr (.inl a1)), (3, .inr (.inl a3))] [] h = f_Line_scaledAbove N a1 a3 h := (rfl)
set_option maxRecDepth 1000000 in
theorem chk_Line_scaledAbove : chkT 4 false prog_6_method_11_code T_Line_scaledAbove = true := by decide +kernel
theorem mc_Line_scaledAbove : mC 39 = prog_6_method_11_code := by rfl
theorem mx_Line_scaledAbove : mL 39 = 5 ∧ mR 39 = some .long ∧ mK 39 = 1 ∧ (mN 39).cls = cN 4 := by decide +kernel
theorem hD_Line_scaledAbove (N : Nat) {r : Int64 × MH} : ∀ n pc lv st h, D_Line_scaledAbove N n pc lv st h = some r → ∃ lv', (∀ q ∈ lv', q ∈ lv) ∧ seg (C_Line_scaledAbove N) 5 0 rJ T_Line_scaledAbove [0] (fun q lv st h => match Nat.ble (pc + 1) q with
    | true => D_Line_scaledAbove N n q lv st h
    | false => none) 400 true pc lv' st h = some r := by
  intro n pc lv st h hf
  unfold D_Line_scaledAbove at hf
  split at hf
  · rename_i hb
    have hb := Nat.eq_of_beq_eq_true hb
    subst hb
    split at hf
    · rename_i y0 y1 e0 e1 e2
      exact ⟨_, (sub_cons e0 (sub_cons e1 (sub_cons e2 sub_nil))), (E_Line_scaledAbove_0 N n _ _ h).trans hf⟩
    · cases hf
  · skip
    cases hf
theorem hM_Line_scaledAbove (N : Nat) {r : Int64 × MH} : ∀ n pc lv st h, D_Line_scaledAbove N n pc lv st h = some r → pc < 33 := by
  intro n pc lv st h hf
  unfold D_Line_scaledAbove at hf
  split at hf
  · rename_i hb
    rw [Nat.eq_of_beq_eq_true hb]
    decide
  · skip
    cases hf
theorem s_Line_scaledAbove {l : Launch} {E : EV} {N : Nat} {as : List MV} {h : MH} {r : Int64 × MH} (hf : w_Line_scaledAbove (f_Line_scaledAbove N) as h = some r) : SndM l E false 3 39 as h (some (.inr (.inl r.1))) r.2 := by
  unfold w_Line_scaledAbove at hf
  split at hf
  · obtain ⟨m1, m2, m3, m4⟩ := mx_Line_scaledAbove
    refine snd_of (C := C_Line_scaledAbove N) (own := 4) (rz := 0) (lim := 115) rJ_eq m2 m4 pl_39 (TB_in _ cw_39 rfl) ⟨(fun _ => ⟨_, _, _, _, _, _, rfl, rfl, by rw [m4]; rfl⟩), (fun z => by rw [m3] at z; cases z)⟩ (fun z => by cases z) KDL_take rfl rfl (fun z => by cases z) (fun z => by cases z) (fun _ => rfl) (by rw [m1]; exact Nat.le_of_ble_eq_true rfl)
      (fun _ _ _ _ z => by cases z)
      (fun j as h x z => by
      dsimp only [C_Line_scaledAbove] at z
      cases hb : Nat.beq j 33 with
      | true =>
        have hb := Nat.eq_of_beq_eq_true hb
        subst hb
        exact ⟨0, by decide, (fun z => by cases z), s_Line_spread z⟩
      | false =>
        rw [hb] at z
        dsimp only at z
        cases hb : Nat.beq j 34 with
        | true =>
          have hb := Nat.eq_of_beq_eq_true hb
          subst hb
          exact ⟨0, by decide, (fun z => by cases z), s_Line_tilt z⟩
        | false =>
          rw [hb] at z
          dsimp only at z
          cases hb : Nat.beq j 38 with
          | true =>
            have hb := Nat.eq_of_beq_eq_true hb
            subst hb
            exact ⟨2, by decide, (fun z => by cases z), s_Line_scaled z⟩
          | false =>
            rw [hb] at z
            dsimp only at z
            cases z)
      (fun _ _ _ _ z => by cases z)
      (fun _ _ _ _ z => by cases z)
      (fun p e R s m args below meth c Q n0 F hret => ?_)
    rw [m1] at F hret ⊢
    rw [mc_Line_scaledAbove] at F hret
    exact cuts_s (K := 400) (M := 33) (D := D_Line_scaledAbove N) (B := fun _ _ _ _ _ => none) F hret (chkT_ok chk_Line_scaledAbove) (hM_Line_scaledAbove N) (fun _ _ _ _ _ z => by cases z) (hD_Line_scaledAbove N) N 0 _ _ _ hf
  · cases hf
def T_Ledger_sideOf : List (List (Option RW)) := [
  [some (.iload_n 2, 1, [2], 0, 0), some (.bipush 20, 2, [], 20, 0), none, some (.if_icmp .lt 5, 3, [8], 0, 0), none, none, some (.iconst 0, 1, [], 0, 0), some (.ireturn, 1, [], 0, 0), some (.aload_n 1, 1, [1], 0, 0), some (.iload_n 2, 1, [2], 0, 0), some (.i2l, 1, [], 0, 0), some (.aload_n 0, 1, [0], 0, 0), some (.getfield 53, 3, [3, 13, 2, 1, 20, 10], 0, 0), none, none, some (.iload_n 2, 1, [2], 0, 0), some (.iaload, 1, [], 0, 0), some (.i2l, 1, [], 0, 0), some (.invokevirtual 90, 3, [1, 39, 3, 1], 0, 0), none, none, some (.lstore_n 3, 1, [3], 0, 0), some (.aload_n 1, 1, [1], 0, 0), some (.aload_n 0, 1, [0], 0, 0), some (.getfield 56, 3, [3, 14, 2, 1, 20, 11], 0, 0), none, none, some (.iload_n 2, 1, [2], 0, 0), some (.iaload, 1, [], 0, 0), some (.i2l, 1, [], 0, 0), some (.invokevirtual 94, 3, [1, 38, 2, 1], 0, 0), none],
  [none, some (.lstore 5, 2, [5], 0, 0), none, some (.lload_n 3, 1, [3], 0, 0), some (.lload 5, 2, [5], 0, 0), none, some (.lcmp, 1, [], 0, 0), some (.ifCond .le 5, 3, [44], 0, 0), none, none, some (.iconst 1, 1, [], 1, 0), some (.ireturn, 1, [], 0, 0), some (.lload_n 3, 1, [3], 0, 0), some (.lload 5, 2, [5], 0, 0), none, some (.lneg, 1, [], 0, 0), some (.lcmp, 1, [], 0, 0), some (.ifCond .ge 7, 3, [56], 0, 0), none, none, some (.iconst (-1), 1, [], (-1), 0), some (.goto 4, 3, [57], 0, 0), none, none, some (.iconst 0, 1, [], 0, 0), some (.ireturn, 1, [], 0, 0)]]
def f_Ledger_sideOf (N : Nat) (a2 : Int32) (h : MH) : Option (Int32 × MH) :=
  if a2 < 20 then
  (if inB a2 20 = true then
  ((f_Line_scaledAbove N a2.toInt64 (((gI h 26 (iN a2))).toInt64) h).bind (fun x1 =>
  if inB a2 20 = true then
  ((f_Line_scaled N (((gI x1.2 27 (iN a2))).toInt64) x1.2).bind (fun x2 =>
  if (lg_cmp x1.1 x2.1) ≤ 0 then
  (if 0 ≤ (lg_cmp x1.1 (-x2.1)) then
  (some (0, x2.2))
  else
  (some ((-1), x2.2)))
  else
  (some (1, x2.2))))
  else none))
  else none)
  else
  (some (0, h))
def C_Ledger_sideOf (N : Nat) : MC := (KDL, false, (fun _ => 0), jsB, (fun _ _ _ => none), (fun j => match Nat.beq j 38 with
    | true => w_Line_scaled (f_Line_scaled N)
    | false => match Nat.beq j 39 with
    | true => w_Line_scaledAbove (f_Line_scaledAbove N)
    | false => fun _ _ => none), (fun _ _ _ => none), (fun _ _ _ => none))
def D_Ledger_sideOf (N : Nat) (n pc : Nat) (lv : ML) (st : List MV) (h : MH) : Option (Int32 × MH) :=
  match Nat.beq pc 0 with
  | true => (match lk lv 0, lk lv 1, lk lv 2, st with
    | some (.inr (.inr (0, 3, 16))), some (.inr (.inr (0, 4, 28))), some (.inl a2), [] => f_Ledger_sideOf N a2 h
    | _, _, _, _ => none)
  | false => none
set_option maxRecDepth 1000000 in
theorem E_Ledger_sideOf_0 (N : Nat) (n : Nat) (a2 : Int32) (h : MH) : seg (C_Ledger_sideOf N) 7 0 rI T_Ledger_sideOf [0] (fun q lv st h => match Nat.ble 1 q with
    | true => D_Ledger_sideOf N n q lv st h
    | false => none) 400 true 0 [(0, .inr (.inr (0, 3, 16))), (1, .inr (.inr (0, 4, 28))), (2, .inl a2)] [] h = f_Ledger_sideOf N a2 h := (rfl)
set_option maxRecDepth 1000000 in
theorem chk_Ledger_sideOf : chkT 3 false prog_5_method_10_code T_Ledger_sideOf = true := by decide +kernel
theorem mc_Ledger_sideOf : mC 26 = prog_5_method_10_code := by rfl
theorem mx_Ledger_sideOf : mL 26 = 7 ∧ mR 26 = some .int ∧ mK 26 = 1 ∧ (mN 26).cls = cN 3 := by decide +kernel
theorem hD_Ledger_sideOf (N : Nat) {r : Int32 × MH} : ∀ n pc lv st h, D_Ledger_sideOf N n pc lv st h = some r → ∃ lv', (∀ q ∈ lv', q ∈ lv) ∧ seg (C_Ledger_sideOf N) 7 0 rI T_Ledger_sideOf [0] (fun q lv st h => match Nat.ble (pc + 1) q with
    | true => D_Ledger_sideOf N n q lv st h
    | false => none) 400 true pc lv' st h = some r := by
  intro n pc lv st h hf
  unfold D_Ledger_sideOf at hf
  split at hf
  · rename_i hb
    have hb := Nat.eq_of_beq_eq_true hb
    subst hb
    split at hf
    · rename_i y0 e0 e1 e2
      exact ⟨_, (sub_cons e0 (sub_cons e1 (sub_cons e2 sub_nil))), (E_Ledger_sideOf_0 N n _ h).trans hf⟩
    · cases hf
  · skip
    cases hf
theorem hM_Ledger_sideOf (N : Nat) {r : Int32 × MH} : ∀ n pc lv st h, D_Ledger_sideOf N n pc lv st h = some r → pc < 58 := by
  intro n pc lv st h hf
  unfold D_Ledger_sideOf at hf
  split at hf
  · rename_i hb
    rw [Nat.eq_of_beq_eq_true hb]
    decide
  · skip
    cases hf
theorem s_Ledger_sideOf {l : Launch} {E : EV} {N : Nat} {as : List MV} {h : MH} {r : Int32 × MH} (hf : w_Ledger_sideOf (f_Ledger_sideOf N) as h = some r) : SndM l E false 4 26 as h (some (.inl r.1)) r.2 := by
  unfold w_Ledger_sideOf at hf
  split at hf
  · obtain ⟨m1, m2, m3, m4⟩ := mx_Ledger_sideOf
    refine snd_of (C := C_Ledger_sideOf N) (own := 3) (rz := 0) (lim := 115) rI_eq m2 m4 pl_26 (TB_in _ cw_26 rfl) ⟨(fun _ => ⟨_, _, _, _, _, _, rfl, rfl, by rw [m4]; rfl⟩), (fun z => by rw [m3] at z; cases z)⟩ (fun z => by cases z) KDL_take rfl rfl (fun z => by cases z) (fun z => by cases z) (fun _ => rfl) (by rw [m1]; exact Nat.le_of_ble_eq_true rfl)
      (fun _ _ _ _ z => by cases z)
      (fun j as h x z => by
      dsimp only [C_Ledger_sideOf] at z
      cases hb : Nat.beq j 38 with
      | true =>
        have hb := Nat.eq_of_beq_eq_true hb
        subst hb
        exact ⟨2, by decide, (fun z => by cases z), s_Line_scaled z⟩
      | false =>
        rw [hb] at z
        dsimp only at z
        cases hb : Nat.beq j 39 with
        | true =>
          have hb := Nat.eq_of_beq_eq_true hb
          subst hb
          exact ⟨3, by decide, (fun z => by cases z), s_Line_scaledAbove z⟩
        | false =>
          rw [hb] at z
          dsimp only at z
          cases z)
      (fun _ _ _ _ z => by cases z)
      (fun _ _ _ _ z => by cases z)
      (fun p e R s m args below meth c Q n0 F hret => ?_)
    rw [m1] at F hret ⊢
    rw [mc_Ledger_sideOf] at F hret
    exact cuts_s (K := 400) (M := 58) (D := D_Ledger_sideOf N) (B := fun _ _ _ _ _ => none) F hret (chkT_ok chk_Ledger_sideOf) (hM_Ledger_sideOf N) (fun _ _ _ _ _ z => by cases z) (hD_Ledger_sideOf N) N 0 _ _ _ hf
  · cases hf
def T_Ledger_toldOfSlow : List (List (Option RW)) := [
  [some (.iload_n 3, 1, [3], 0, 0), some (.ifCond .ne 5, 3, [6], 0, 0), none, none, some (.iload_n 0, 1, [0], 0, 0), some (.ireturn, 1, [], 0, 0), some (.iload_n 3, 1, [3], 0, 0), some (.iconst 1, 1, [], 1, 0), some (.if_icmp .ne 5, 3, [13], 0, 0), none, none, some (.iload_n 1, 1, [1], 0, 0), some (.ireturn, 1, [], 0, 0), some (.iload_n 2, 1, [2], 0, 0), some (.ifCond .le 7, 3, [21], 0, 0), none, none, some (.iconst 1, 1, [], 1, 0), some (.goto 4, 3, [22], 0, 0), none, none, some (.iconst 0, 1, [], 0, 0), some (.ireturn, 1, [], 0, 0)]]
def f_Ledger_toldOfSlow (N : Nat) (a0 : Int32) (a1 : Int32) (a2 : Int32) (a3 : Int32) (h : MH) : Option (Int32 × MH) :=
  if a3 = 0 then
  (some (a0, h))
  else
  (if a3 = 1 then
  (some (a1, h))
  else
  (if a2 ≤ 0 then
  (some (0, h))
  else
  (some (1, h))))
def C_Ledger_toldOfSlow (N : Nat) : MC := (KDL, false, (fun _ => 0), jsB, (fun _ _ _ => none), (fun _ _ _ => none), (fun _ _ _ => none), (fun _ _ _ => none))
def D_Ledger_toldOfSlow (N : Nat) (n pc : Nat) (lv : ML) (st : List MV) (h : MH) : Option (Int32 × MH) :=
  match Nat.beq pc 0 with
  | true => (match lk lv 0, lk lv 1, lk lv 2, lk lv 3, st with
    | some (.inl a0), some (.inl a1), some (.inl a2), some (.inl a3), [] => f_Ledger_toldOfSlow N a0 a1 a2 a3 h
    | _, _, _, _, _ => none)
  | false => none
set_option maxRecDepth 1000000 in
theorem E_Ledger_toldOfSlow_0 (N : Nat) (n : Nat) (a0 : Int32) (a1 : Int32) (a2 : Int32) (a3 : Int32) (h : MH) : seg (C_Ledger_toldOfSlow N) 4 0 rI T_Ledger_toldOfSlow [0] (fun q lv st h => match Nat.ble 1 q with
    | true => D_Ledger_toldOfSlow N n q lv st h
    | false => none) 400 true 0 [(0, .inl a0), (1, .inl a1), (2, .inl a2), (3, .inl a3)] [] h = f_Ledger_toldOfSlow N a0 a1 a2 a3 h := (rfl)
set_option maxRecDepth 1000000 in
theorem chk_Ledger_toldOfSlow : chkT 3 false prog_5_method_12_code T_Ledger_toldOfSlow = true := by decide +kernel
theorem mc_Ledger_toldOfSlow : mC 28 = prog_5_method_12_code := by rfl
theorem mx_Ledger_toldOfSlow : mL 28 = 4 ∧ mR 28 = some .int ∧ mK 28 = 0 ∧ (mN 28).cls = cN 3 := by decide +kernel
theorem hD_Ledger_toldOfSlow (N : Nat) {r : Int32 × MH} : ∀ n pc lv st h, D_Ledger_toldOfSlow N n pc lv st h = some r → ∃ lv', (∀ q ∈ lv', q ∈ lv) ∧ seg (C_Ledger_toldOfSlow N) 4 0 rI T_Ledger_toldOfSlow [0] (fun q lv st h => match Nat.ble (pc + 1) q with
    | true => D_Ledger_toldOfSlow N n q lv st h
    | false => none) 400 true pc lv' st h = some r := by
  intro n pc lv st h hf
  unfold D_Ledger_toldOfSlow at hf
  split at hf
  · rename_i hb
    have hb := Nat.eq_of_beq_eq_true hb
    subst hb
    split at hf
    · rename_i y0 y1 y2 y3 e0 e1 e2 e3
      exact ⟨_, (sub_cons e0 (sub_cons e1 (sub_cons e2 (sub_cons e3 sub_nil)))), (E_Ledger_toldOfSlow_0 N n _ _ _ _ h).trans hf⟩
    · cases hf
  · skip
    cases hf
theorem hM_Ledger_toldOfSlow (N : Nat) {r : Int32 × MH} : ∀ n pc lv st h, D_Ledger_toldOfSlow N n pc lv st h = some r → pc < 23 := by
  intro n pc lv st h hf
  unfold D_Ledger_toldOfSlow at hf
  split at hf
  · rename_i hb
    rw [Nat.eq_of_beq_eq_true hb]
    decide
  · skip
    cases hf
theorem s_Ledger_toldOfSlow {l : Launch} {E : EV} {N : Nat} {as : List MV} {h : MH} {r : Int32 × MH} (hf : w_Ledger_toldOfSlow (f_Ledger_toldOfSlow N) as h = some r) : SndM l E false 0 28 as h (some (.inl r.1)) r.2 := by
  unfold w_Ledger_toldOfSlow at hf
  split at hf
  · obtain ⟨m1, m2, m3, m4⟩ := mx_Ledger_toldOfSlow
    refine snd_of (C := C_Ledger_toldOfSlow N) (own := 3) (rz := 0) (lim := 115) rI_eq m2 m4 pl_28 (TB_in _ cw_28 rfl) ⟨(fun z => by rw [m3] at z; cases z), (fun z => by rw [m3] at z; cases z)⟩ (fun z => by cases z) KDL_take rfl rfl (fun z => by cases z) (fun z => by cases z) (fun _ => rfl) (by rw [m1]; exact Nat.le_of_ble_eq_true rfl)
      (fun _ _ _ _ z => by cases z)
      (fun _ _ _ _ z => by cases z)
      (fun _ _ _ _ z => by cases z)
      (fun _ _ _ _ z => by cases z)
      (fun p e R s m args below meth c Q n0 F hret => ?_)
    rw [m1] at F hret ⊢
    rw [mc_Ledger_toldOfSlow] at F hret
    exact cuts_s (K := 400) (M := 23) (D := D_Ledger_toldOfSlow N) (B := fun _ _ _ _ _ => none) F hret (chkT_ok chk_Ledger_toldOfSlow) (hM_Ledger_toldOfSlow N) (fun _ _ _ _ _ z => by cases z) (hD_Ledger_toldOfSlow N) N 0 _ _ _ hf
  · cases hf
def T_Ledger_slowSlip : List (List (Option RW)) := [
  [some (.aload_n 0, 1, [0], 0, 0), some (.aload_n 1, 1, [1], 0, 0), some (.iconst 0, 1, [], 0, 0), some (.bipush 19, 2, [], 19, 0), none, some (.invokevirtual 78, 3, [0, 24, 4, 3], 0, 0), none, none, some (.aload_n 1, 1, [1], 0, 0), some (.invokevirtual 82, 3, [1, 32, 1, 0], 0, 0), none, none, some (.ifCond .ne 5, 3, [17], 0, 0), none, none, some (.iconst (-1), 1, [], (-1), 0), some (.ireturn, 1, [], 0, 0), some (.iconst 0, 1, [], 0, 0), some (.istore 5, 2, [5], 0, 0), none, some (.iconst 0, 1, [], 0, 0), some (.istore 6, 2, [6], 0, 0), none, some (.iconst 0, 1, [], 0, 0), some (.istore 7, 2, [7], 0, 0), none, some (.iconst 0, 1, [], 0, 0), some (.istore 8, 2, [8], 0, 0), none, some (.iconst 0, 1, [], 0, 0), some (.istore 9, 2, [9], 0, 0), none],
  [some (.iconst 0, 1, [], 0, 0), some (.istore 10, 2, [10], 0, 0), none, some (.iload 10, 2, [10], 0, 0), none, some (.bipush 20, 2, [], 20, 0), none, some (.if_icmp .gt 119, 3, [158], 0, 0), none, none, some (.iload 10, 2, [10], 0, 0), none, some (.bipush 20, 2, [], 20, 0), none, some (.if_icmp .ge 16, 3, [62], 0, 0), none, none, some (.aload_n 0, 1, [0], 0, 0), some (.getfield 49, 3, [3, 12, 2, 4, 20, 9], 0, 0), none, none, some (.iload 10, 2, [10], 0, 0), none, some (.baload, 1, [], 0, 0), some (.ifCond .ne 6, 3, [62], 0, 0), none, none, some (.goto 93, 3, [152], 0, 0), none, none, some (.aload_n 0, 1, [0], 0, 0), some (.aload_n 1, 1, [1], 0, 0)],
  [some (.iload 10, 2, [10], 0, 0), none, some (.invokevirtual 98, 3, [0, 26, 3, 0], 0, 0), none, none, some (.istore 11, 2, [11], 0, 0), none, some (.iload 11, 2, [11], 0, 0), none, some (.iload 6, 2, [6], 0, 0), none, some (.if_icmp .eq 70, 3, [145], 0, 0), none, none, some (.iload 6, 2, [6], 0, 0), none, some (.ifCond .eq 13, 3, [93], 0, 0), none, none, some (.iload 7, 2, [7], 0, 0), none, some (.iload_n 2, 1, [2], 0, 0), some (.if_icmp .lt 7, 3, [93], 0, 0), none, none, some (.iconst 1, 1, [], 1, 0), some (.goto 4, 3, [94], 0, 0), none, none, some (.iconst 0, 1, [], 0, 0), some (.istore 12, 2, [12], 0, 0), none],
  [some (.iload 12, 2, [12], 0, 0), none, some (.ifCond .eq 21, 3, [119], 0, 0), none, none, some (.iload 5, 2, [5], 0, 0), none, some (.iload_n 3, 1, [3], 0, 0), some (.if_icmp .ne 15, 3, [119], 0, 0), none, none, some (.iload 8, 2, [8], 0, 0), none, some (.iload 9, 2, [9], 0, 0), none, some (.iload 6, 2, [6], 0, 0), none, some (.iload 4, 2, [4], 0, 0), none, some (.invokestatic 102, 3, [2, 28, 4, 0], 0, 0), none, none, some (.ireturn, 1, [], 0, 0), some (.iload 5, 2, [5], 0, 0), none, some (.iload 12, 2, [12], 0, 0), none, some (.ifCond .eq 7, 3, [130], 0, 0), none, none, some (.iconst 1, 1, [], 1, 0), some (.goto 4, 3, [131], 0, 0)],
  [none, none, some (.iconst 0, 1, [], 0, 0), some (.iadd, 1, [], 0, 0), some (.istore 5, 2, [5], 0, 0), none, some (.iload 11, 2, [11], 0, 0), none, some (.istore 6, 2, [6], 0, 0), none, some (.iload 10, 2, [10], 0, 0), none, some (.istore 8, 2, [8], 0, 0), none, some (.iconst 0, 1, [], 0, 0), some (.istore 7, 2, [7], 0, 0), none, some (.iinc 7 1, 3, [7], 1, 0), none, none, some (.iload 10, 2, [10], 0, 0), none, some (.istore 9, 2, [9], 0, 0), none, some (.iinc 10 1, 3, [10], 1, 0), none, none, some (.goto (-120), 3, [35], 0, 0), none, none, some (.iconst (-1), 1, [], (-1), 0), some (.ireturn, 1, [], 0, 0)]]
def F_Ledger_slowSlip_131 (N : Nat) (bk : (Int32 → Int32 → Int32 → Int32 → Int32 → Int32 → Int32 → Int32 → Int32 → MH → Option (Int32 × MH))) (a2 : Int32) (a3 : Int32) (a4 : Int32) (a10 : Int32) (a11 : Int32) (as0 : Int32) (as1 : Int32) (h : MH) : Option (Int32 × MH) :=
  let v8 : Int32 := as1 + as0
  let v9 : Int32 := 0 + 1
  let v10 : Int32 := a10 + 1
  bk a2 a3 a4 v8 a11 v9 a10 a10 v10 h
def F_Ledger_slowSlip_94 (N : Nat) (bk : (Int32 → Int32 → Int32 → Int32 → Int32 → Int32 → Int32 → Int32 → Int32 → MH → Option (Int32 × MH))) (a2 : Int32) (a3 : Int32) (a4 : Int32) (a5 : Int32) (a6 : Int32) (a8 : Int32) (a9 : Int32) (a10 : Int32) (a11 : Int32) (as0 : Int32) (h : MH) : Option (Int32 × MH) :=
  if as0 = 0 then
  (if as0 = 0 then
  (F_Ledger_slowSlip_131 N bk a2 a3 a4 a10 a11 0 a5 h)
  else
  (F_Ledger_slowSlip_131 N bk a2 a3 a4 a10 a11 1 a5 h))
  else
  (if a5 = a3 then
  ((f_Ledger_toldOfSlow N a8 a9 a6 a4 h).bind (fun x7 =>
  some (x7.1, x7.2)))
  else
  (if as0 = 0 then
  (F_Ledger_slowSlip_131 N bk a2 a3 a4 a10 a11 0 a5 h)
  else
  (F_Ledger_slowSlip_131 N bk a2 a3 a4 a10 a11 1 a5 h)))
def F_Ledger_slowSlip_62 (N : Nat) (bk : (Int32 → Int32 → Int32 → Int32 → Int32 → Int32 → Int32 → Int32 → Int32 → MH → Option (Int32 × MH))) (a2 : Int32) (a3 : Int32) (a4 : Int32) (a5 : Int32) (a6 : Int32) (a7 : Int32) (a8 : Int32) (a9 : Int32) (a10 : Int32) (h : MH) : Option (Int32 × MH) :=
  (f_Ledger_sideOf N a10 h).bind (fun x4 =>
  if x4.1 = a6 then
  (let v5 : Int32 := a7 + 1
  let v6 : Int32 := a10 + 1
  bk a2 a3 a4 a5 a6 v5 a8 a10 v6 x4.2)
  else
  (if a6 = 0 then
  (F_Ledger_slowSlip_94 N bk a2 a3 a4 a5 a6 a8 a9 a10 x4.1 0 x4.2)
  else
  (if a7 < a2 then
  (F_Ledger_slowSlip_94 N bk a2 a3 a4 a5 a6 a8 a9 a10 x4.1 0 x4.2)
  else
  (F_Ledger_slowSlip_94 N bk a2 a3 a4 a5 a6 a8 a9 a10 x4.1 1 x4.2))))
def F_Ledger_slowSlip_35 (N : Nat) (bk : (Int32 → Int32 → Int32 → Int32 → Int32 → Int32 → Int32 → Int32 → Int32 → MH → Option (Int32 × MH))) (a2 : Int32) (a3 : Int32) (a4 : Int32) (a5 : Int32) (a6 : Int32) (a7 : Int32) (a8 : Int32) (a9 : Int32) (a10 : Int32) (h : MH) : Option (Int32 × MH) :=
  if 20 < a10 then
  (some ((-1), h))
  else
  (if 20 ≤ a10 then
  (F_Ledger_slowSlip_62 N bk a2 a3 a4 a5 a6 a7 a8 a9 a10 h)
  else
  (if inB a10 20 = true then
  (if (gI h 25 (iN a10)) = 0 then
  (let v3 : Int32 := a10 + 1
  bk a2 a3 a4 a5 a6 a7 a8 a9 v3 h)
  else
  (F_Ledger_slowSlip_62 N bk a2 a3 a4 a5 a6 a7 a8 a9 a10 h))
  else none))
def F_Ledger_slowSlip_0 (N : Nat) (bk : (Int32 → Int32 → Int32 → Int32 → Int32 → Int32 → Int32 → Int32 → Int32 → MH → Option (Int32 × MH))) (a2 : Int32) (a3 : Int32) (a4 : Int32) (h : MH) : Option (Int32 × MH) :=
  (f_Ledger_fit N 0 19 h).bind (fun x1 =>
  (f_Line_stands N x1).bind (fun x2 =>
  if x2.1 = 0 then
  (some ((-1), x2.2))
  else
  (F_Ledger_slowSlip_35 N bk a2 a3 a4 0 0 0 0 0 0 x2.2)))
def L_Ledger_slowSlip (N : Nat) : Nat → (Int32 → Int32 → Int32 → Int32 → Int32 → Int32 → Int32 → Int32 → Int32 → MH → Option (Int32 × MH))
  | 0 => fun _ _ _ _ _ _ _ _ _ _ => none
  | n + 1 => F_Ledger_slowSlip_35 N (L_Ledger_slowSlip N n)
def f_Ledger_slowSlip (N : Nat) (a2 : Int32) (a3 : Int32) (a4 : Int32) (h : MH) : Option (Int32 × MH) := F_Ledger_slowSlip_0 N (L_Ledger_slowSlip N N) a2 a3 a4 h
def C_Ledger_slowSlip (N : Nat) : MC := (KDL, false, (fun _ => 0), jsB, (fun j => match Nat.beq j 26 with
    | true => w_Ledger_sideOf (f_Ledger_sideOf N)
    | false => match Nat.beq j 28 with
    | true => w_Ledger_toldOfSlow (f_Ledger_toldOfSlow N)
    | false => match Nat.beq j 32 with
    | true => w_Line_stands (f_Line_stands N)
    | false => fun _ _ => none), (fun _ _ _ => none), (fun _ _ _ => none), (fun j => match Nat.beq j 24 with
    | true => w_Ledger_fit (f_Ledger_fit N)
    | false => fun _ _ => none))
def D_Ledger_slowSlip (N : Nat) (n pc : Nat) (lv : ML) (st : List MV) (h : MH) : Option (Int32 × MH) :=
  match Nat.beq pc 0 with
  | true => (match lk lv 0, lk lv 1, lk lv 2, lk lv 3, lk lv 4, st with
    | some (.inr (.inr (0, 3, 16))), some (.inr (.inr (0, 4, 28))), some (.inl a2), some (.inl a3), some (.inl a4), [] => F_Ledger_slowSlip_0 N (L_Ledger_slowSlip N n) a2 a3 a4 h
    | _, _, _, _, _, _ => none)
  | false => match Nat.beq pc 35 with
  | true => (match lk lv 0, lk lv 1, lk lv 2, lk lv 3, lk lv 4, lk lv 5, lk lv 6, lk lv 7, lk lv 8, lk lv 9, lk lv 10, st with
    | some (.inr (.inr (0, 3, 16))), some (.inr (.inr (0, 4, 28))), some (.inl a2), some (.inl a3), some (.inl a4), some (.inl a5), some (.inl a6), some (.inl a7), some (.inl a8), some (.inl a9), some (.inl a10), [] => F_Ledger_slowSlip_35 N (L_Ledger_slowSlip N n) a2 a3 a4 a5 a6 a7 a8 a9 a10 h
    | _, _, _, _, _, _, _, _, _, _, _, _ => none)
  | false => match Nat.beq pc 62 with
  | true => (match lk lv 0, lk lv 1, lk lv 2, lk lv 3, lk lv 4, lk lv 5, lk lv 6, lk lv 7, lk lv 8, lk lv 9, lk lv 10, st with
    | some (.inr (.inr (0, 3, 16))), some (.inr (.inr (0, 4, 28))), some (.inl a2), some (.inl a3), some (.inl a4), some (.inl a5), some (.inl a6), some (.inl a7), some (.inl a8), some (.inl a9), some (.inl a10), [] => F_Ledger_slowSlip_62 N (L_Ledger_slowSlip N n) a2 a3 a4 a5 a6 a7 a8 a9 a10 h
    | _, _, _, _, _, _, _, _, _, _, _, _ => none)
  | false => match Nat.beq pc 94 with
  | true => (match lk lv 0, lk lv 1, lk lv 2, lk lv 3, lk lv 4, lk lv 5, lk lv 6, lk lv 8, lk lv 9, lk lv 10, lk lv 11, st with
    | some (.inr (.inr (0, 3, 16))), some (.inr (.inr (0, 4, 28))), some (.inl a2), some (.inl a3), some (.inl a4), some (.inl a5), some (.inl a6), some (.inl a8), some (.inl a9), some (.inl a10), some (.inl a11), [.inl as0] => F_Ledger_slowSlip_94 N (L_Ledger_slowSlip N n) a2 a3 a4 a5 a6 a8 a9 a10 a11 as0 h
    | _, _, _, _, _, _, _, _, _, _, _, _ => none)
  | false => match Nat.beq pc 131 with
  | true => (match lk lv 0, lk lv 1, lk lv 2, lk lv 3, lk lv 4, lk lv 10, lk lv 11, st with
    | some (.inr (.inr (0, 3, 16))), some (.inr (.inr (0, 4, 28))), some (.inl a2), some (.inl a3), some (.inl a4), some (.inl a10), some (.inl a11), [.inl as0, .inl as1] => F_Ledger_slowSlip_131 N (L_Ledger_slowSlip N n) a2 a3 a4 a10 a11 as0 as1 h
    | _, _, _, _, _, _, _, _ => none)
  | false => none
def B_Ledger_slowSlip (N : Nat) (n pc : Nat) (lv : ML) (st : List MV) (h : MH) : Option (Int32 × MH) :=
  match Nat.beq pc 35 with
  | true => (match lk lv 0, lk lv 1, lk lv 2, lk lv 3, lk lv 4, lk lv 5, lk lv 6, lk lv 7, lk lv 8, lk lv 9, lk lv 10, st with
    | some (.inr (.inr (0, 3, 16))), some (.inr (.inr (0, 4, 28))), some (.inl a2), some (.inl a3), some (.inl a4), some (.inl a5), some (.inl a6), some (.inl a7), some (.inl a8), some (.inl a9), some (.inl a10), [] => ((L_Ledger_slowSlip N n)) a2 a3 a4 a5 a6 a7 a8 a9 a10 h
    | _, _, _, _, _, _, _, _, _, _, _, _ => none)
  | false => none
set_option maxRecDepth 1000000 in
theorem E_Ledger_slowSlip_0 (N : Nat) (n : Nat) (a2 : Int32) (a3 : Int32) (a4 : Int32) (h : MH) : seg (C_Ledger_slowSlip N) 13 0 rI T_Ledger_slowSlip [0, 35, 62, 94, 131] (fun q lv st h => match Nat.ble 1 q with
    | true => D_Ledger_slowSlip N n q lv st h
    | false => B_Ledger_slowSlip N n q lv st h) 400 true 0 [(0, .inr (.inr (0, 3, 16))), (1, .inr (.inr (0, 4, 28))), (2, .inl a2), (3, .inl a3), (4, .inl a4)] [] h = F_Ledger_slowSlip_0 N (L_Ledger_slowSlip N n) a2 a3 a4 h := (rfl)
set_option maxRecDepth 1000000 in
theorem E_Ledger_slowSlip_35 (N : Nat) (n : Nat) (a2 : Int32) (a3 : Int32) (a4 : Int32) (a5 : Int32) (a6 : Int32) (a7 : Int32) (a8 : Int32) (a9 : Int32) (a10 : Int32) (h : MH) : seg (C_Ledger_slowSlip N) 13 0 rI T_Ledger_slowSlip [0, 35, 62, 94, 131] (fun q lv st h => match Nat.ble 36 q with
    | true => D_Ledger_slowSlip N n q lv st h
    | false => B_Ledger_slowSlip N n q lv st h) 400 true 35 [(0, .inr (.inr (0, 3, 16))), (1, .inr (.inr (0, 4, 28))), (2, .inl a2), (3, .inl a3), (4, .inl a4), (5, .inl a5), (6, .inl a6), (7, .inl a7), (8, .inl a8), (9, .inl a9), (10, .inl a10)] [] h = F_Ledger_slowSlip_35 N (L_Ledger_slowSlip N n) a2 a3 a4 a5 a6 a7 a8 a9 a10 h := (rfl)
set_option maxRecDepth 1000000 in
theorem E_Ledger_slowSlip_62 (N : Nat) (n : Nat) (a2 : Int32) (a3 : Int32) (a4 : Int32) (a5 : Int32) (a6 : Int32) (a7 : Int32) (a8 : Int32) (a9 : Int32) (a10 : Int32) (h : MH) : seg (C_Ledger_slowSlip N) 13 0 rI T_Ledger_slowSlip [0, 35, 62, 94, 131] (fun q lv st h => match Nat.ble 63 q with
    | true => D_Ledger_slowSlip N n q lv st h
    | false => B_Ledger_slowSlip N n q lv st h) 400 true 62 [(0, .inr (.inr (0, 3, 16))), (1, .inr (.inr (0, 4, 28))), (2, .inl a2), (3, .inl a3), (4, .inl a4), (5, .inl a5), (6, .inl a6), (7, .inl a7), (8, .inl a8), (9, .inl a9), (10, .inl a10)] [] h = F_Ledger_slowSlip_62 N (L_Ledger_slowSlip N n) a2 a3 a4 a5 a6 a7 a8 a9 a10 h := (rfl)
set_option maxRecDepth 1000000 in
theorem E_Ledger_slowSlip_94 (N : Nat) (n : Nat) (a2 : Int32) (a3 : Int32) (a4 : Int32) (a5 : Int32) (a6 : Int32) (a8 : Int32) (a9 : Int32) (a10 : Int32) (a11 : Int32) (as0 : Int32) (h : MH) : seg (C_Ledger_slowSlip N) 13 0 rI T_Ledger_slowSlip [0, 35, 62, 94, 131] (fun q lv st h => match Nat.ble 95 q with
    | true => D_Ledger_slowSlip N n q lv st h
    | false => B_Ledger_slowSlip N n q lv st h) 400 true 94 [(0, .inr (.inr (0, 3, 16))), (1, .inr (.inr (0, 4, 28))), (2, .inl a2), (3, .inl a3), (4, .inl a4), (5, .inl a5), (6, .inl a6), (8, .inl a8), (9, .inl a9), (10, .inl a10), (11, .inl a11)] [.inl as0] h = F_Ledger_slowSlip_94 N (L_Ledger_slowSlip N n) a2 a3 a4 a5 a6 a8 a9 a10 a11 as0 h := (rfl)
set_option maxRecDepth 1000000 in
theorem E_Ledger_slowSlip_131 (N : Nat) (n : Nat) (a2 : Int32) (a3 : Int32) (a4 : Int32) (a10 : Int32) (a11 : Int32) (as0 : Int32) (as1 : Int32) (h : MH) : seg (C_Ledger_slowSlip N) 13 0 rI T_Ledger_slowSlip [0, 35, 62, 94, 131] (fun q lv st h => match Nat.ble 132 q with
    | true => D_Ledger_slowSlip N n q lv st h
    | false => B_Ledger_slowSlip N n q lv st h) 400 true 131 [(0, .inr (.inr (0, 3, 16))), (1, .inr (.inr (0, 4, 28))), (2, .inl a2), (3, .inl a3), (4, .inl a4), (10, .inl a10), (11, .inl a11)] [.inl as0, .inl as1] h = F_Ledger_slowSlip_131 N (L_Ledger_slowSlip N n) a2 a3 a4 a10 a11 as0 as1 h := (rfl)
set_option maxRecDepth 1000000 in
theorem chk_Ledger_slowSlip : chkT 3 false prog_5_method_11_code T_Ledger_slowSlip = true := by decide +kernel
theorem mc_Ledger_slowSlip : mC 27 = prog_5_method_11_code := by rfl
theorem mx_Ledger_slowSlip : mL 27 = 13 ∧ mR 27 = some .int ∧ mK 27 = 1 ∧ (mN 27).cls = cN 3 := by decide +kernel
theorem hD_Ledger_slowSlip (N : Nat) {r : Int32 × MH} : ∀ n pc lv st h, D_Ledger_slowSlip N n pc lv st h = some r → ∃ lv', (∀ q ∈ lv', q ∈ lv) ∧ seg (C_Ledger_slowSlip N) 13 0 rI T_Ledger_slowSlip [0, 35, 62, 94, 131] (fun q lv st h => match Nat.ble (pc + 1) q with
    | true => D_Ledger_slowSlip N n q lv st h
    | false => B_Ledger_slowSlip N n q lv st h) 400 true pc lv' st h = some r := by
  intro n pc lv st h hf
  unfold D_Ledger_slowSlip at hf
  split at hf
  · rename_i hb
    have hb := Nat.eq_of_beq_eq_true hb
    subst hb
    split at hf
    · rename_i y0 y1 y2 e0 e1 e2 e3 e4
      exact ⟨_, (sub_cons e0 (sub_cons e1 (sub_cons e2 (sub_cons e3 (sub_cons e4 sub_nil))))), (E_Ledger_slowSlip_0 N n _ _ _ h).trans hf⟩
    · cases hf
  · skip
    split at hf
    · rename_i hb
      have hb := Nat.eq_of_beq_eq_true hb
      subst hb
      split at hf
      · rename_i y0 y1 y2 y3 y4 y5 y6 y7 y8 e0 e1 e2 e3 e4 e5 e6 e7 e8 e9 e10
        exact ⟨_, (sub_cons e0 (sub_cons e1 (sub_cons e2 (sub_cons e3 (sub_cons e4 (sub_cons e5 (sub_cons e6 (sub_cons e7 (sub_cons e8 (sub_cons e9 (sub_cons e10 sub_nil))))))))))), (E_Ledger_slowSlip_35 N n _ _ _ _ _ _ _ _ _ h).trans hf⟩
      · cases hf
    · skip
      split at hf
      · rename_i hb
        have hb := Nat.eq_of_beq_eq_true hb
        subst hb
        split at hf
        · rename_i y0 y1 y2 y3 y4 y5 y6 y7 y8 e0 e1 e2 e3 e4 e5 e6 e7 e8 e9 e10
          exact ⟨_, (sub_cons e0 (sub_cons e1 (sub_cons e2 (sub_cons e3 (sub_cons e4 (sub_cons e5 (sub_cons e6 (sub_cons e7 (sub_cons e8 (sub_cons e9 (sub_cons e10 sub_nil))))))))))), (E_Ledger_slowSlip_62 N n _ _ _ _ _ _ _ _ _ h).trans hf⟩
        · cases hf
      · skip
        split at hf
        · rename_i hb
          have hb := Nat.eq_of_beq_eq_true hb
          subst hb
          split at hf
          · rename_i y0 y1 y2 y3 y4 y5 y6 y7 y8 y9 e0 e1 e2 e3 e4 e5 e6 e7 e8 e9 e10
            exact ⟨_, (sub_cons e0 (sub_cons e1 (sub_cons e2 (sub_cons e3 (sub_cons e4 (sub_cons e5 (sub_cons e6 (sub_cons e7 (sub_cons e8 (sub_cons e9 (sub_cons e10 sub_nil))))))))))), (E_Ledger_slowSlip_94 N n _ _ _ _ _ _ _ _ _ _ h).trans hf⟩
          · cases hf
        · skip
          split at hf
          · rename_i hb
            have hb := Nat.eq_of_beq_eq_true hb
            subst hb
            split at hf
            · rename_i y0 y1 y2 y3 y4 y5 y6 e0 e1 e2 e3 e4 e5 e6
              exact ⟨_, (sub_cons e0 (sub_cons e1 (sub_cons e2 (sub_cons e3 (sub_cons e4 (sub_cons e5 (sub_cons e6 sub_nil))))))), (E_Ledger_slowSlip_131 N n _ _ _ _ _ _ _ h).trans hf⟩
            · cases hf
          · skip
            cases hf
theorem hM_Ledger_slowSlip (N : Nat) {r : Int32 × MH} : ∀ n pc lv st h, D_Ledger_slowSlip N n pc lv st h = some r → pc < 160 := by
  intro n pc lv st h hf
  unfold D_Ledger_slowSlip at hf
  split at hf
  · rename_i hb
    rw [Nat.eq_of_beq_eq_true hb]
    decide
  · skip
    split at hf
    · rename_i hb
      rw [Nat.eq_of_beq_eq_true hb]
      decide
    · skip
      split at hf
      · rename_i hb
        rw [Nat.eq_of_beq_eq_true hb]
        decide
      · skip
        split at hf
        · rename_i hb
          rw [Nat.eq_of_beq_eq_true hb]
          decide
        · skip
          split at hf
          · rename_i hb
            rw [Nat.eq_of_beq_eq_true hb]
            decide
          · skip
            cases hf
theorem hB_Ledger_slowSlip (N : Nat) {r : Int32 × MH} : ∀ n pc lv st h, B_Ledger_slowSlip N n pc lv st h = some r → ∃ k, n = k + 1 ∧ D_Ledger_slowSlip N k pc lv st h = some r := by
  intro n pc lv st h hf
  unfold B_Ledger_slowSlip at hf
  split at hf
  · rename_i hb
    have hb := Nat.eq_of_beq_eq_true hb
    subst hb
    cases n with
    | zero =>
      split at hf
      · cases hf
      · cases hf
    | succ k =>
      refine ⟨k, rfl, ?_⟩
      exact hf
  · skip
    cases hf
theorem s_Ledger_slowSlip {l : Launch} {E : EV} {N : Nat} {as : List MV} {h : MH} {r : Int32 × MH} (hf : w_Ledger_slowSlip (f_Ledger_slowSlip N) as h = some r) : SndM l E false 5 27 as h (some (.inl r.1)) r.2 := by
  unfold w_Ledger_slowSlip at hf
  split at hf
  · obtain ⟨m1, m2, m3, m4⟩ := mx_Ledger_slowSlip
    refine snd_of (C := C_Ledger_slowSlip N) (own := 3) (rz := 0) (lim := 115) rI_eq m2 m4 pl_27 (TB_in _ cw_27 rfl) ⟨(fun _ => ⟨_, _, _, _, _, _, rfl, rfl, by rw [m4]; rfl⟩), (fun z => by rw [m3] at z; cases z)⟩ (fun z => by cases z) KDL_take rfl rfl (fun z => by cases z) (fun z => by cases z) (fun _ => rfl) (by rw [m1]; exact Nat.le_of_ble_eq_true rfl)
      (fun j as h x z => by
      dsimp only [C_Ledger_slowSlip] at z
      cases hb : Nat.beq j 26 with
      | true =>
        have hb := Nat.eq_of_beq_eq_true hb
        subst hb
        exact ⟨4, by decide, (fun z => by cases z), s_Ledger_sideOf z⟩
      | false =>
        rw [hb] at z
        dsimp only at z
        cases hb : Nat.beq j 28 with
        | true =>
          have hb := Nat.eq_of_beq_eq_true hb
          subst hb
          exact ⟨0, by decide, (fun z => by cases z), s_Ledger_toldOfSlow z⟩
        | false =>
          rw [hb] at z
          dsimp only at z
          cases hb : Nat.beq j 32 with
          | true =>
            have hb := Nat.eq_of_beq_eq_true hb
            subst hb
            exact ⟨0, by decide, (fun z => by cases z), s_Line_stands z⟩
          | false =>
            rw [hb] at z
            dsimp only at z
            cases z)
      (fun _ _ _ _ z => by cases z)
      (fun _ _ _ _ z => by cases z)
      (fun j as h x z => by
      dsimp only [C_Ledger_slowSlip] at z
      cases hb : Nat.beq j 24 with
      | true =>
        have hb := Nat.eq_of_beq_eq_true hb
        subst hb
        exact ⟨1, by decide, (fun z => by cases z), s_Ledger_fit z⟩
      | false =>
        rw [hb] at z
        dsimp only at z
        cases z)
      (fun p e R s m args below meth c Q n0 F hret => ?_)
    rw [m1] at F hret ⊢
    rw [mc_Ledger_slowSlip] at F hret
    exact cuts_s (K := 400) (M := 160) (D := D_Ledger_slowSlip N) (B := B_Ledger_slowSlip N) F hret (chkT_ok chk_Ledger_slowSlip) (hM_Ledger_slowSlip N) (hB_Ledger_slowSlip N) (hD_Ledger_slowSlip N) N 0 _ _ _ hf
  · cases hf
