/-! MAKERS: the walk, with its table -/
def e_Walk_init_42 (h : MH) : MH :=
  let h1 : MH := sI h 42 0 9
  let h2 : MH := sI h1 42 1 0
  let h3 : MH := sI h2 42 2 0
  let h4 : MH := sI h3 42 3 0
  let h5 : MH := sI h4 42 4 0
  let h6 : MH := sI h5 42 5 0
  let h7 : MH := sI h6 42 6 0
  let h8 : MH := sI h7 42 7 0
  let h9 : MH := sN h8
  let h10 : MH := sR h9 42 8 43
  let h11 : MH := sN h10
  let h12 : MH := sR h11 42 9 44
  let h13 : MH := sN h12
  let h14 : MH := sR h13 42 10 45
  let h15 : MH := sN h14
  let h16 : MH := sR h15 42 11 46
  let h17 : MH := sN h16
  let h18 : MH := sR h17 42 12 47
  let h19 : MH := sI h18 42 13 0
  let h20 : MH := sI h19 42 14 0
  let h21 : MH := sI h20 42 15 0
  h21
def e0W (h : MH) : MH := sI (e_Walk_init_42 h) 46 0 1
def gkW (h : MH) (x : Option MH) : Option MH := match kOK (KDL.take 48) h.1 1 385 46 && Nat.beq (gR h 42 11) 46 with
  | true => x
  | false => none
abbrev BKW : Type := (Int32 → MH → Option MH) × (Int32 → Int32 → Int32 → MH → Option MH) × (Int32 → MH → Option MH)
def F_W_179 (bk : BKW) (a1 : Int32) (h : MH) : Option MH :=
  if a1 < 0 then
  (some h)
  else
  (if (55 : Int32) = 0 then none else
  (if a1 - a1 / 55 * 55 = 54 then
  (bk.2.2 (a1 + (-1)) h)
  else
  (gkW h (if inB a1 385 = true then
  (gkW h (if inB (a1 + 1) 385 = true then
  (if inB a1 385 = true then
  (bk.2.2 (a1 + (-1)) (sI h 46 (iN a1) (gI h 46 (iN a1) + gI h 46 (iN (a1 + 1)))))
  else none)
  else none))
  else none))))
def F_W_128 (bk : BKW) (a1 a2 a3 : Int32) (h : MH) : Option MH :=
  if 9 < a3 then
  (bk.1 (a1 + 1) h)
  else
  (if a2 < a3 then
  (bk.1 (a1 + 1) h)
  else
  (gkW h (if inB a1 385 = true then
  (gkW h (if inB (a1 - 55 - a3) 385 = true then
  (if inB a1 385 = true then
  (bk.2.1 a1 a2 (a3 + 1) (sI h 46 (iN a1) (gI h 46 (iN a1) + gI h 46 (iN (a1 - 55 - a3)))))
  else none)
  else none))
  else none)))
def F_W_112 (bk : BKW) (a1 : Int32) (h : MH) : Option MH :=
  gkW h (if nI 385 ≤ a1 then
  (gkW h (F_W_179 bk (nI 385 - 2) h))
  else
  (if (55 : Int32) = 0 then none else
  (F_W_128 bk a1 (a1 - a1 / 55 * 55) 0 h)))
def L_W : Nat → BKW
  | 0 => (fun _ _ => none, fun _ _ _ _ => none, fun _ _ => none)
  | n + 1 => (F_W_112 (L_W n), F_W_128 (L_W n), F_W_179 (L_W n))
def C_W : MC := (KDL.take 48, true, (fun _ => 0), jsB, (fun _ _ _ => none), (fun _ _ _ => none), (fun _ _ _ => none), (fun _ _ _ => none))
def D_W (n pc : Nat) (lv : ML) (st : List MV) (h : MH) : Option MH :=
  match Nat.beq pc 0 with
  | true => (match lk lv 0, st with
    | some (.inr (.inr (0, 10, 42))), [] => (match Nat.beq h.1 42 with
      | true => F_W_112 (L_W n) 55 (e0W (42, h.2))
      | false => none)
    | _, _ => none)
  | false => match Nat.beq pc 112 with
  | true => (match lk lv 0, lk lv 1, st with
    | some (.inr (.inr (0, 10, 42))), some (.inl a1), [] => F_W_112 (L_W n) a1 h
    | _, _, _ => none)
  | false => match Nat.beq pc 128 with
  | true => (match lk lv 0, lk lv 1, lk lv 2, lk lv 3, st with
    | some (.inr (.inr (0, 10, 42))), some (.inl a1), some (.inl a2), some (.inl a3), [] => F_W_128 (L_W n) a1 a2 a3 h
    | _, _, _, _, _ => none)
  | false => match Nat.beq pc 179 with
  | true => (match lk lv 0, lk lv 1, st with
    | some (.inr (.inr (0, 10, 42))), some (.inl a1), [] => F_W_179 (L_W n) a1 h
    | _, _, _ => none)
  | false => none
def B_W (n pc : Nat) (lv : ML) (st : List MV) (h : MH) : Option MH :=
  match Nat.beq pc 112 with
  | true => (match lk lv 0, lk lv 1, st with
    | some (.inr (.inr (0, 10, 42))), some (.inl a1), [] => (L_W n).1 a1 h
    | _, _, _ => none)
  | false => match Nat.beq pc 128 with
  | true => (match lk lv 0, lk lv 1, lk lv 2, lk lv 3, st with
    | some (.inr (.inr (0, 10, 42))), some (.inl a1), some (.inl a2), some (.inl a3), [] => (L_W n).2.1 a1 a2 a3 h
    | _, _, _, _, _ => none)
  | false => match Nat.beq pc 179 with
  | true => (match lk lv 0, lk lv 1, st with
    | some (.inr (.inr (0, 10, 42))), some (.inl a1), [] => (L_W n).2.2 a1 h
    | _, _, _ => none)
  | false => none
set_option maxRecDepth 1000000 in
theorem E_W_0 (n : Nat) (hi : Nat → Nat → Int32) (hj : Nat → Nat → Int64) (hr : Nat → Nat → Nat) : seg C_W 4 0 rV T_Walk_init [0, 112, 128, 179] (fun q lv st h => match Nat.ble 1 q with
    | true => D_W n q lv st h
    | false => B_W n q lv st h) 400 true 0 [(0, .inr (.inr (0, 10, 42)))] [] (42, hi, hj, hr) = F_W_112 (L_W n) 55 (e0W (42, hi, hj, hr)) := (rfl)
set_option maxRecDepth 1000000 in
theorem E_W_112 (n : Nat) (a1 : Int32) (h : MH) : seg C_W 4 0 rV T_Walk_init [0, 112, 128, 179] (fun q lv st h => match Nat.ble 113 q with
    | true => D_W n q lv st h
    | false => B_W n q lv st h) 400 true 112 [(0, .inr (.inr (0, 10, 42))), (1, .inl a1)] [] h = F_W_112 (L_W n) a1 h := (rfl)
set_option maxRecDepth 1000000 in
theorem E_W_128 (n : Nat) (a1 a2 a3 : Int32) (h : MH) : seg C_W 4 0 rV T_Walk_init [0, 112, 128, 179] (fun q lv st h => match Nat.ble 129 q with
    | true => D_W n q lv st h
    | false => B_W n q lv st h) 400 true 128 [(0, .inr (.inr (0, 10, 42))), (1, .inl a1), (2, .inl a2), (3, .inl a3)] [] h = F_W_128 (L_W n) a1 a2 a3 h := (rfl)
set_option maxRecDepth 1000000 in
theorem E_W_179 (n : Nat) (a1 : Int32) (h : MH) : seg C_W 4 0 rV T_Walk_init [0, 112, 128, 179] (fun q lv st h => match Nat.ble 180 q with
    | true => D_W n q lv st h
    | false => B_W n q lv st h) 400 true 179 [(0, .inr (.inr (0, 10, 42))), (1, .inl a1)] [] h = F_W_179 (L_W n) a1 h := (rfl)
theorem hD_W {r : MH} : ∀ n pc lv st h, D_W n pc lv st h = some r → ∃ lv', (∀ q ∈ lv', q ∈ lv) ∧ seg C_W 4 0 rV T_Walk_init [0, 112, 128, 179] (fun q lv st h => match Nat.ble (pc + 1) q with
    | true => D_W n q lv st h
    | false => B_W n q lv st h) 400 true pc lv' st h = some r := by
  intro n pc lv st h hf
  unfold D_W at hf
  split at hf
  · rename_i hb
    have hb := Nat.eq_of_beq_eq_true hb
    subst hb
    split at hf
    · rename_i e0
      split at hf
      · rename_i hc
        have hc := Nat.eq_of_beq_eq_true hc
        obtain ⟨c, hi, hj, hr⟩ := h
        simp only at hc
        subst hc
        exact ⟨_, (sub_cons e0 sub_nil), (E_W_0 n hi hj hr).trans hf⟩
      · cases hf
    · cases hf
  · split at hf
    · rename_i hb
      have hb := Nat.eq_of_beq_eq_true hb
      subst hb
      split at hf
      · rename_i y0 e0 e1
        exact ⟨_, (sub_cons e0 (sub_cons e1 sub_nil)), (E_W_112 n _ h).trans hf⟩
      · cases hf
    · split at hf
      · rename_i hb
        have hb := Nat.eq_of_beq_eq_true hb
        subst hb
        split at hf
        · rename_i y0 y1 y2 e0 e1 e2 e3
          exact ⟨_, (sub_cons e0 (sub_cons e1 (sub_cons e2 (sub_cons e3 sub_nil)))), (E_W_128 n _ _ _ h).trans hf⟩
        · cases hf
      · split at hf
        · rename_i hb
          have hb := Nat.eq_of_beq_eq_true hb
          subst hb
          split at hf
          · rename_i y0 e0 e1
            exact ⟨_, (sub_cons e0 (sub_cons e1 sub_nil)), (E_W_179 n _ h).trans hf⟩
          · cases hf
        · cases hf
theorem hM_W {r : MH} : ∀ n pc lv st h, D_W n pc lv st h = some r → pc < 216 := by
  intro n pc lv st h hf
  unfold D_W at hf
  split at hf
  · rename_i hb
    rw [Nat.eq_of_beq_eq_true hb]; decide
  · split at hf
    · rename_i hb
      rw [Nat.eq_of_beq_eq_true hb]; decide
    · split at hf
      · rename_i hb
        rw [Nat.eq_of_beq_eq_true hb]; decide
      · split at hf
        · rename_i hb
          rw [Nat.eq_of_beq_eq_true hb]; decide
        · cases hf
theorem hB_W {r : MH} : ∀ n pc lv st h, B_W n pc lv st h = some r → ∃ k, n = k + 1 ∧ D_W k pc lv st h = some r := by
  intro n pc lv st h hf
  unfold B_W at hf
  split at hf
  · rename_i hb
    have hb := Nat.eq_of_beq_eq_true hb
    subst hb
    cases n with
    | zero => split at hf <;> cases hf
    | succ k => exact ⟨k, rfl, hf⟩
  · split at hf
    · rename_i hb
      have hb := Nat.eq_of_beq_eq_true hb
      subst hb
      cases n with
      | zero => split at hf <;> cases hf
      | succ k => exact ⟨k, rfl, hf⟩
    · split at hf
      · rename_i hb
        have hb := Nat.eq_of_beq_eq_true hb
        subst hb
        cases n with
        | zero => split at hf <;> cases hf
        | succ k => exact ⟨k, rfl, hf⟩
      · cases hf
def f_Walk_init_42 (N : Nat) (h : MH) : Option MH := match Nat.beq h.1 42 with
  | true => (F_W_112 (L_W N) 55 (e0W (42, h.2))).bind (fun r => match Nat.beq r.1 47 with
    | true => some (47, r.2)
    | false => none)
  | false => none
theorem u_Walk_init_42 {N : Nat} {h r : MH} (hf : f_Walk_init_42 N h = some r) : h.1 = 42 ∧ r.1 = 47 ∧ D_W N 0 [(0, .inr (.inr (0, 10, 42)))] [] h = some r := by
  unfold f_Walk_init_42 at hf
  split at hf
  · rename_i hb
    rcases hq : F_W_112 (L_W N) 55 (e0W (42, h.2)) with _ | x
    · rw [hq] at hf; cases hf
    · rw [hq] at hf
      dsimp only [Option.bind] at hf
      split at hf
      · rename_i hc
        have hc := Nat.eq_of_beq_eq_true hc
        cases hf
        refine ⟨Nat.eq_of_beq_eq_true hb, rfl, ?_⟩
        show (match Nat.beq h.1 42 with
          | true => F_W_112 (L_W N) 55 (e0W (42, h.2))
          | false => none) = _
        rw [hb]
        show F_W_112 (L_W N) 55 (e0W (42, h.2)) = _
        rw [hq, ← hc]
      · cases hf
  · cases hf
theorem s_Walk_init_42 {l : Launch} {E : EV} {N : Nat} {h r : MH} (hf : f_Walk_init_42 N h = some r) : SndM l E true 0 91 [.inr (.inr (0, 10, 42))] h none r := by
  obtain ⟨u1, u2, u3⟩ := u_Walk_init_42 hf
  obtain ⟨m1, m2, m3, m4, m5⟩ := mx_Walk_init
  refine snd_of (C := C_W) (own := 10) (rz := 0) (lim := 47) rV_eq m2 m4 pl_91 (TB_in _ cw_91 rfl) ⟨(fun _ => ⟨_, _, _, _, _, _, rfl, rfl, by rw [m4]; rfl⟩), (fun z => by rw [m3] at z; cases z)⟩ (fun _ => by omega) rfl rfl rfl (fun _ => m5) (fun _ => u2.symm) (fun z => by cases z) (by rw [m1]; exact Nat.le_of_ble_eq_true rfl)
      (fun _ _ _ _ z => by cases z) (fun _ _ _ _ z => by cases z) (fun _ _ _ _ z => by cases z)
      (fun _ _ _ _ z => by cases z)
      (fun p e R s m args below meth c Q n0 F hret => ?_)
  rw [m1] at F hret ⊢
  rw [mc_Walk_init] at F hret
  exact cuts_s (K := 400) (M := 216) (D := D_W) (B := B_W) F hret (chkT_ok chk_Walk_init) hM_W hB_W hD_W N 0 _ _ _ u3
