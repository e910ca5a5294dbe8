/-! MAKERS: what they leave, and their contracts -/
def e_Land_init_5 (h : MH) : MH :=
  let h1 : MH := sN h
  let h2 : MH := sR h1 5 2 6
  let h3 : MH := sN h2
  let h4 : MH := sR h3 5 3 7
  let h5 : MH := sN h4
  let h6 : MH := sR h5 5 4 8
  let h7 : MH := sN h6
  let h8 : MH := sR h7 5 5 9
  let h9 : MH := sN h8
  let h10 : MH := sR h9 5 6 10
  h10
def C_Land_init_5 : MC := (KDL.take 11, true, (fun _ => 0), jsB, (fun _ _ _ => none), (fun _ _ _ => none), (fun _ _ _ => none), (fun _ _ _ => none))
def f_Land_init_5 (h : MH) : Option MH := match Nat.beq h.1 5 with
  | true => (seg (C_Land_init_5) 1 0 rV T_Land_init [] (fun _ _ _ _ => none) 600 true 0 [(0, .inr (.inr (0, 2, 5)))] [] h).bind (fun r => match Nat.beq r.1 10 with
    | true => some (10, r.2)
    | false => none)
  | false => none
theorem u_Land_init_5 {h r : MH} (hf : f_Land_init_5 h = some r) : h.1 = 5 ∧ r.1 = 10 ∧ seg (C_Land_init_5) 1 0 rV T_Land_init [] (fun _ _ _ _ => none) 600 true 0 [(0, .inr (.inr (0, 2, 5)))] [] h = some r := by
  unfold f_Land_init_5 at hf
  split at hf
  · rename_i hb
    rcases hq : seg (C_Land_init_5) 1 0 rV T_Land_init [] (fun _ _ _ _ => none) 600 true 0 [(0, .inr (.inr (0, 2, 5)))] [] h with _ | x
    · rw [hq] at hf; cases hf
    · rw [hq] at hf
      dsimp only [Option.bind] at hf
      split at hf
      · rename_i hc
        have hc := Nat.eq_of_beq_eq_true hc
        cases hf
        exact ⟨Nat.eq_of_beq_eq_true hb, rfl, by rw [← hc]⟩
      · cases hf
  · cases hf
theorem s_Land_init_5 {l : Launch} {E : EV} {h r : MH} (hf : f_Land_init_5 h = some r) : SndM l E true 0 12 [.inr (.inr (0, 2, 5))] h none r := by
  obtain ⟨u1, u2, u3⟩ := u_Land_init_5 hf
  obtain ⟨m1, m2, m3, m4, m5⟩ := mx_Land_init
  refine snd_of (C := C_Land_init_5) (own := 2) (rz := 0) (lim := 10) rV_eq m2 m4 pl_12 (TB_in _ cw_12 rfl) ⟨(fun _ => ⟨_, _, _, _, _, _, rfl, rfl, by rw [m4]; rfl⟩), (fun z => by rw [m3] at z; cases z)⟩ (fun _ => by omega) rfl rfl rfl (fun _ => m5) (fun _ => u2.symm) (fun z => by cases z) (by rw [m1]; exact Nat.le_of_ble_eq_true rfl)
      (fun _ _ _ _ z => by cases z) (fun _ _ _ _ z => by cases z) (fun _ _ _ _ z => by cases z)
      (fun _ _ _ _ z => by cases z)
      (fun p e R s m args below meth c Q n0 F hret => ?_)
  rw [m1] at F hret ⊢
  rw [mc_Land_init] at F hret
  exact seg_s F hret (chkT_ok chk_Land_init) (fun _ _ _ _ z => by cases z) 600 true 0 _ _ _ u3
set_option maxRecDepth 1000000 in
theorem v_Land_init_5 (hi : Nat → Nat → Int32) (hj : Nat → Nat → Int64) (hr : Nat → Nat → Nat) : f_Land_init_5 (5, hi, hj, hr) = some (10, (e_Land_init_5 (5, hi, hj, hr)).2) := (rfl)
def e_Names_init_11 (h : MH) : MH :=
  let h1 : MH := sN h
  let h2 : MH := sR h1 11 0 12
  let h3 : MH := sN h2
  let h4 : MH := sR h3 11 1 13
  let h5 : MH := sN h4
  let h6 : MH := sR h5 11 2 14
  let h7 : MH := sN h6
  let h8 : MH := sR h7 11 3 15
  let h9 : MH := sI h8 11 4 0
  h9
def C_Names_init_11 : MC := (KDL.take 16, true, (fun _ => 0), jsB, (fun _ _ _ => none), (fun _ _ _ => none), (fun _ _ _ => none), (fun _ _ _ => none))
def f_Names_init_11 (h : MH) : Option MH := match Nat.beq h.1 11 with
  | true => (seg (C_Names_init_11) 1 0 rV T_Names_init [] (fun _ _ _ _ => none) 600 true 0 [(0, .inr (.inr (0, 5, 11)))] [] h).bind (fun r => match Nat.beq r.1 15 with
    | true => some (15, r.2)
    | false => none)
  | false => none
theorem u_Names_init_11 {h r : MH} (hf : f_Names_init_11 h = some r) : h.1 = 11 ∧ r.1 = 15 ∧ seg (C_Names_init_11) 1 0 rV T_Names_init [] (fun _ _ _ _ => none) 600 true 0 [(0, .inr (.inr (0, 5, 11)))] [] h = some r := by
  unfold f_Names_init_11 at hf
  split at hf
  · rename_i hb
    rcases hq : seg (C_Names_init_11) 1 0 rV T_Names_init [] (fun _ _ _ _ => none) 600 true 0 [(0, .inr (.inr (0, 5, 11)))] [] h with _ | x
    · rw [hq] at hf; cases hf
    · rw [hq] at hf
      dsimp only [Option.bind] at hf
      split at hf
      · rename_i hc
        have hc := Nat.eq_of_beq_eq_true hc
        cases hf
        exact ⟨Nat.eq_of_beq_eq_true hb, rfl, by rw [← hc]⟩
      · cases hf
  · cases hf
theorem s_Names_init_11 {l : Launch} {E : EV} {h r : MH} (hf : f_Names_init_11 h = some r) : SndM l E true 0 40 [.inr (.inr (0, 5, 11))] h none r := by
  obtain ⟨u1, u2, u3⟩ := u_Names_init_11 hf
  obtain ⟨m1, m2, m3, m4, m5⟩ := mx_Names_init
  refine snd_of (C := C_Names_init_11) (own := 5) (rz := 0) (lim := 15) rV_eq m2 m4 pl_40 (TB_in _ cw_40 rfl) ⟨(fun _ => ⟨_, _, _, _, _, _, rfl, rfl, by rw [m4]; rfl⟩), (fun z => by rw [m3] at z; cases z)⟩ (fun _ => by omega) rfl rfl rfl (fun _ => m5) (fun _ => u2.symm) (fun z => by cases z) (by rw [m1]; exact Nat.le_of_ble_eq_true rfl)
      (fun _ _ _ _ z => by cases z) (fun _ _ _ _ z => by cases z) (fun _ _ _ _ z => by cases z)
      (fun _ _ _ _ z => by cases z)
      (fun p e R s m args below meth c Q n0 F hret => ?_)
  rw [m1] at F hret ⊢
  rw [mc_Names_init] at F hret
  exact seg_s F hret (chkT_ok chk_Names_init) (fun _ _ _ _ z => by cases z) 600 true 0 _ _ _ u3
set_option maxRecDepth 1000000 in
theorem v_Names_init_11 (hi : Nat → Nat → Int32) (hj : Nat → Nat → Int64) (hr : Nat → Nat → Nat) : f_Names_init_11 (11, hi, hj, hr) = some (15, (e_Names_init_11 (11, hi, hj, hr)).2) := (rfl)
def e_Reader_init_3 (h : MH) : MH :=
  let h1 : MH := sN h
  let h2 : MH := sR h1 3 0 4
  let h3 : MH := sI h2 3 1 0
  let h4 : MH := sI h3 3 2 0
  let h5 : MH := sI h4 3 3 0
  let h6 : MH := sI h5 3 4 0
  let h7 : MH := sI h6 3 5 0
  let h8 : MH := sI h7 3 6 0
  let h9 : MH := sI h8 3 7 0
  let h10 : MH := sI h9 3 8 (-1)
  let h11 : MH := sN h10
  let h12 : MH := e_Land_init_5 h11
  let h13 : MH := sR h12 3 9 5
  let h14 : MH := sN h13
  let h15 : MH := e_Names_init_11 h14
  let h16 : MH := sR h15 3 10 11
  let h17 : MH := sJ h16 3 11 0
  let h18 : MH := sI h17 3 12 0
  h18
def C_Reader_init_3 : MC := (KDL.take 16, true, (fun _ => 0), jsB, (fun _ _ _ => none), (fun _ _ _ => none), (fun _ _ _ => none), (fun j => match Nat.beq j 12 with
    | true => (fun as h => (match as with
      | [.inr (.inr (0, 2, 5))] => f_Land_init_5 h
      | _ => none))
    | false => match Nat.beq j 40 with
    | true => (fun as h => (match as with
      | [.inr (.inr (0, 5, 11))] => f_Names_init_11 h
      | _ => none))
    | false => fun _ _ => none))
def f_Reader_init_3 (h : MH) : Option MH := match Nat.beq h.1 3 with
  | true => (seg (C_Reader_init_3) 1 0 rV T_Reader_init [] (fun _ _ _ _ => none) 600 true 0 [(0, .inr (.inr (0, 7, 3)))] [] h).bind (fun r => match Nat.beq r.1 15 with
    | true => some (15, r.2)
    | false => none)
  | false => none
theorem u_Reader_init_3 {h r : MH} (hf : f_Reader_init_3 h = some r) : h.1 = 3 ∧ r.1 = 15 ∧ seg (C_Reader_init_3) 1 0 rV T_Reader_init [] (fun _ _ _ _ => none) 600 true 0 [(0, .inr (.inr (0, 7, 3)))] [] h = some r := by
  unfold f_Reader_init_3 at hf
  split at hf
  · rename_i hb
    rcases hq : seg (C_Reader_init_3) 1 0 rV T_Reader_init [] (fun _ _ _ _ => none) 600 true 0 [(0, .inr (.inr (0, 7, 3)))] [] h with _ | x
    · rw [hq] at hf; cases hf
    · rw [hq] at hf
      dsimp only [Option.bind] at hf
      split at hf
      · rename_i hc
        have hc := Nat.eq_of_beq_eq_true hc
        cases hf
        exact ⟨Nat.eq_of_beq_eq_true hb, rfl, by rw [← hc]⟩
      · cases hf
  · cases hf
theorem s_Reader_init_3 {l : Launch} {E : EV} {h r : MH} (hf : f_Reader_init_3 h = some r) : SndM l E true 1 51 [.inr (.inr (0, 7, 3))] h none r := by
  obtain ⟨u1, u2, u3⟩ := u_Reader_init_3 hf
  obtain ⟨m1, m2, m3, m4, m5⟩ := mx_Reader_init
  refine snd_of (C := C_Reader_init_3) (own := 7) (rz := 0) (lim := 15) rV_eq m2 m4 pl_51 (TB_in _ cw_51 rfl) ⟨(fun _ => ⟨_, _, _, _, _, _, rfl, rfl, by rw [m4]; rfl⟩), (fun z => by rw [m3] at z; cases z)⟩ (fun _ => by omega) rfl rfl rfl (fun _ => m5) (fun _ => u2.symm) (fun z => by cases z) (by rw [m1]; exact Nat.le_of_ble_eq_true rfl)
      (fun _ _ _ _ z => by cases z) (fun _ _ _ _ z => by cases z) (fun _ _ _ _ z => by cases z)
      (fun j as h x z => by
      dsimp only [C_Reader_init_3] at z
      cases hb : Nat.beq j 12 with
      | true =>
        have hb := Nat.eq_of_beq_eq_true hb
        subst hb
        rw [show Nat.beq 12 12 = true from rfl] at z
        dsimp only at z
        split at z
        · exact ⟨0, by decide, (fun _ => by rw [(u_Land_init_5 z).2.1]; decide), s_Land_init_5 z⟩
        · cases z
      | false =>
        rw [hb] at z
        dsimp only at z
        cases hb : Nat.beq j 40 with
        | true =>
          have hb := Nat.eq_of_beq_eq_true hb
          subst hb
          rw [show Nat.beq 40 40 = true from rfl] at z
          dsimp only at z
          split at z
          · exact ⟨0, by decide, (fun _ => by rw [(u_Names_init_11 z).2.1]; decide), s_Names_init_11 z⟩
          · cases z
        | false =>
          rw [hb] at z
          dsimp only at z
          cases z)
      (fun p e R s m args below meth c Q n0 F hret => ?_)
  rw [m1] at F hret ⊢
  rw [mc_Reader_init] at F hret
  exact seg_s F hret (chkT_ok chk_Reader_init) (fun _ _ _ _ z => by cases z) 600 true 0 _ _ _ u3
set_option maxRecDepth 1000000 in
theorem v_Reader_init_3 (hi : Nat → Nat → Int32) (hj : Nat → Nat → Int64) (hr : Nat → Nat → Nat) : f_Reader_init_3 (3, hi, hj, hr) = some (15, (e_Reader_init_3 (3, hi, hj, hr)).2) := (rfl)
def e_Ledger_init_16 (h : MH) : MH :=
  let h1 : MH := sN h
  let h2 : MH := sR h1 16 0 17
  let h3 : MH := sN h2
  let h4 : MH := sR h3 16 1 18
  let h5 : MH := sN h4
  let h6 : MH := sR h5 16 2 19
  let h7 : MH := sN h6
  let h8 : MH := sR h7 16 3 20
  let h9 : MH := sN h8
  let h10 : MH := sR h9 16 4 21
  let h11 : MH := sI h10 16 5 0
  let h12 : MH := sN h11
  let h13 : MH := sR h12 16 6 22
  let h14 : MH := sN h13
  let h15 : MH := sR h14 16 7 23
  let h16 : MH := sN h15
  let h17 : MH := sR h16 16 8 24
  let h18 : MH := sI h17 16 9 0
  let h19 : MH := sI h18 16 10 0
  let h20 : MH := sI h19 16 11 9999
  let h21 : MH := sN h20
  let h22 : MH := sR h21 16 12 25
  let h23 : MH := sN h22
  let h24 : MH := sR h23 16 13 26
  let h25 : MH := sN h24
  let h26 : MH := sR h25 16 14 27
  h26
def C_Ledger_init_16 : MC := (KDL.take 28, true, (fun _ => 0), jsB, (fun _ _ _ => none), (fun _ _ _ => none), (fun _ _ _ => none), (fun _ _ _ => none))
def f_Ledger_init_16 (h : MH) : Option MH := match Nat.beq h.1 16 with
  | true => (seg (C_Ledger_init_16) 1 0 rV T_Ledger_init [] (fun _ _ _ _ => none) 600 true 0 [(0, .inr (.inr (0, 3, 16)))] [] h).bind (fun r => match Nat.beq r.1 27 with
    | true => some (27, r.2)
    | false => none)
  | false => none
theorem u_Ledger_init_16 {h r : MH} (hf : f_Ledger_init_16 h = some r) : h.1 = 16 ∧ r.1 = 27 ∧ seg (C_Ledger_init_16) 1 0 rV T_Ledger_init [] (fun _ _ _ _ => none) 600 true 0 [(0, .inr (.inr (0, 3, 16)))] [] h = some r := by
  unfold f_Ledger_init_16 at hf
  split at hf
  · rename_i hb
    rcases hq : seg (C_Ledger_init_16) 1 0 rV T_Ledger_init [] (fun _ _ _ _ => none) 600 true 0 [(0, .inr (.inr (0, 3, 16)))] [] h with _ | x
    · rw [hq] at hf; cases hf
    · rw [hq] at hf
      dsimp only [Option.bind] at hf
      split at hf
      · rename_i hc
        have hc := Nat.eq_of_beq_eq_true hc
        cases hf
        exact ⟨Nat.eq_of_beq_eq_true hb, rfl, by rw [← hc]⟩
      · cases hf
  · cases hf
theorem s_Ledger_init_16 {l : Launch} {E : EV} {h r : MH} (hf : f_Ledger_init_16 h = some r) : SndM l E true 0 17 [.inr (.inr (0, 3, 16))] h none r := by
  obtain ⟨u1, u2, u3⟩ := u_Ledger_init_16 hf
  obtain ⟨m1, m2, m3, m4, m5⟩ := mx_Ledger_init
  refine snd_of (C := C_Ledger_init_16) (own := 3) (rz := 0) (lim := 27) rV_eq m2 m4 pl_17 (TB_in _ cw_17 rfl) ⟨(fun _ => ⟨_, _, _, _, _, _, rfl, rfl, by rw [m4]; rfl⟩), (fun z => by rw [m3] at z; cases z)⟩ (fun _ => by omega) rfl rfl rfl (fun _ => m5) (fun _ => u2.symm) (fun z => by cases z) (by rw [m1]; exact Nat.le_of_ble_eq_true rfl)
      (fun _ _ _ _ z => by cases z) (fun _ _ _ _ z => by cases z) (fun _ _ _ _ z => by cases z)
      (fun _ _ _ _ z => by cases z)
      (fun p e R s m args below meth c Q n0 F hret => ?_)
  rw [m1] at F hret ⊢
  rw [mc_Ledger_init] at F hret
  exact seg_s F hret (chkT_ok chk_Ledger_init) (fun _ _ _ _ z => by cases z) 600 true 0 _ _ _ u3
set_option maxRecDepth 1000000 in
theorem v_Ledger_init_16 (hi : Nat → Nat → Int32) (hj : Nat → Nat → Int64) (hr : Nat → Nat → Nat) : f_Ledger_init_16 (16, hi, hj, hr) = some (27, (e_Ledger_init_16 (16, hi, hj, hr)).2) := (rfl)
def e_Line_init_28 (h : MH) : MH :=
  let h1 : MH := sJ h 28 0 0
  let h2 : MH := sJ h1 28 1 0
  let h3 : MH := sJ h2 28 2 0
  let h4 : MH := sJ h3 28 3 0
  let h5 : MH := sJ h4 28 4 0
  let h6 : MH := sJ h5 28 5 0
  h6
def C_Line_init_28 : MC := (KDL.take 29, true, (fun _ => 0), jsB, (fun _ _ _ => none), (fun _ _ _ => none), (fun _ _ _ => none), (fun _ _ _ => none))
def f_Line_init_28 (h : MH) : Option MH := match Nat.beq h.1 28 with
  | true => (seg (C_Line_init_28) 1 0 rV T_Line_init [] (fun _ _ _ _ => none) 600 true 0 [(0, .inr (.inr (0, 4, 28)))] [] h).bind (fun r => match Nat.beq r.1 28 with
    | true => some (28, r.2)
    | false => none)
  | false => none
theorem u_Line_init_28 {h r : MH} (hf : f_Line_init_28 h = some r) : h.1 = 28 ∧ r.1 = 28 ∧ seg (C_Line_init_28) 1 0 rV T_Line_init [] (fun _ _ _ _ => none) 600 true 0 [(0, .inr (.inr (0, 4, 28)))] [] h = some r := by
  unfold f_Line_init_28 at hf
  split at hf
  · rename_i hb
    rcases hq : seg (C_Line_init_28) 1 0 rV T_Line_init [] (fun _ _ _ _ => none) 600 true 0 [(0, .inr (.inr (0, 4, 28)))] [] h with _ | x
    · rw [hq] at hf; cases hf
    · rw [hq] at hf
      dsimp only [Option.bind] at hf
      split at hf
      · rename_i hc
        have hc := Nat.eq_of_beq_eq_true hc
        cases hf
        exact ⟨Nat.eq_of_beq_eq_true hb, rfl, by rw [← hc]⟩
      · cases hf
  · cases hf
theorem s_Line_init_28 {l : Launch} {E : EV} {h r : MH} (hf : f_Line_init_28 h = some r) : SndM l E true 0 29 [.inr (.inr (0, 4, 28))] h none r := by
  obtain ⟨u1, u2, u3⟩ := u_Line_init_28 hf
  obtain ⟨m1, m2, m3, m4, m5⟩ := mx_Line_init
  refine snd_of (C := C_Line_init_28) (own := 4) (rz := 0) (lim := 28) rV_eq m2 m4 pl_29 (TB_in _ cw_29 rfl) ⟨(fun _ => ⟨_, _, _, _, _, _, rfl, rfl, by rw [m4]; rfl⟩), (fun z => by rw [m3] at z; cases z)⟩ (fun _ => by omega) rfl rfl rfl (fun _ => m5) (fun _ => u2.symm) (fun z => by cases z) (by rw [m1]; exact Nat.le_of_ble_eq_true rfl)
      (fun _ _ _ _ z => by cases z) (fun _ _ _ _ z => by cases z) (fun _ _ _ _ z => by cases z)
      (fun _ _ _ _ z => by cases z)
      (fun p e R s m args below meth c Q n0 F hret => ?_)
  rw [m1] at F hret ⊢
  rw [mc_Line_init] at F hret
  exact seg_s F hret (chkT_ok chk_Line_init) (fun _ _ _ _ z => by cases z) 600 true 0 _ _ _ u3
set_option maxRecDepth 1000000 in
theorem v_Line_init_28 (hi : Nat → Nat → Int32) (hj : Nat → Nat → Int64) (hr : Nat → Nat → Nat) : f_Line_init_28 (28, hi, hj, hr) = some (28, (e_Line_init_28 (28, hi, hj, hr)).2) := (rfl)
def e_Shakes_init_29 (h : MH) : MH :=
  let h1 : MH := sN h
  let h2 : MH := sR h1 29 0 30
  let h3 : MH := sN h2
  let h4 : MH := sR h3 29 1 31
  let h5 : MH := sN h4
  let h6 : MH := sR h5 29 2 32
  let h7 : MH := sI h6 29 3 0
  h7
def C_Shakes_init_29 : MC := (KDL.take 33, true, (fun _ => 0), jsB, (fun _ _ _ => none), (fun _ _ _ => none), (fun _ _ _ => none), (fun _ _ _ => none))
def f_Shakes_init_29 (h : MH) : Option MH := match Nat.beq h.1 29 with
  | true => (seg (C_Shakes_init_29) 1 0 rV T_Shakes_init [] (fun _ _ _ _ => none) 600 true 0 [(0, .inr (.inr (0, 8, 29)))] [] h).bind (fun r => match Nat.beq r.1 32 with
    | true => some (32, r.2)
    | false => none)
  | false => none
theorem u_Shakes_init_29 {h r : MH} (hf : f_Shakes_init_29 h = some r) : h.1 = 29 ∧ r.1 = 32 ∧ seg (C_Shakes_init_29) 1 0 rV T_Shakes_init [] (fun _ _ _ _ => none) 600 true 0 [(0, .inr (.inr (0, 8, 29)))] [] h = some r := by
  unfold f_Shakes_init_29 at hf
  split at hf
  · rename_i hb
    rcases hq : seg (C_Shakes_init_29) 1 0 rV T_Shakes_init [] (fun _ _ _ _ => none) 600 true 0 [(0, .inr (.inr (0, 8, 29)))] [] h with _ | x
    · rw [hq] at hf; cases hf
    · rw [hq] at hf
      dsimp only [Option.bind] at hf
      split at hf
      · rename_i hc
        have hc := Nat.eq_of_beq_eq_true hc
        cases hf
        exact ⟨Nat.eq_of_beq_eq_true hb, rfl, by rw [← hc]⟩
      · cases hf
  · cases hf
theorem s_Shakes_init_29 {l : Launch} {E : EV} {h r : MH} (hf : f_Shakes_init_29 h = some r) : SndM l E true 0 79 [.inr (.inr (0, 8, 29))] h none r := by
  obtain ⟨u1, u2, u3⟩ := u_Shakes_init_29 hf
  obtain ⟨m1, m2, m3, m4, m5⟩ := mx_Shakes_init
  refine snd_of (C := C_Shakes_init_29) (own := 8) (rz := 0) (lim := 32) rV_eq m2 m4 pl_79 (TB_in _ cw_79 rfl) ⟨(fun _ => ⟨_, _, _, _, _, _, rfl, rfl, by rw [m4]; rfl⟩), (fun z => by rw [m3] at z; cases z)⟩ (fun _ => by omega) rfl rfl rfl (fun _ => m5) (fun _ => u2.symm) (fun z => by cases z) (by rw [m1]; exact Nat.le_of_ble_eq_true rfl)
      (fun _ _ _ _ z => by cases z) (fun _ _ _ _ z => by cases z) (fun _ _ _ _ z => by cases z)
      (fun _ _ _ _ z => by cases z)
      (fun p e R s m args below meth c Q n0 F hret => ?_)
  rw [m1] at F hret ⊢
  rw [mc_Shakes_init] at F hret
  exact seg_s F hret (chkT_ok chk_Shakes_init) (fun _ _ _ _ z => by cases z) 600 true 0 _ _ _ u3
set_option maxRecDepth 1000000 in
theorem v_Shakes_init_29 (hi : Nat → Nat → Int32) (hj : Nat → Nat → Int64) (hr : Nat → Nat → Nat) : f_Shakes_init_29 (29, hi, hj, hr) = some (32, (e_Shakes_init_29 (29, hi, hj, hr)).2) := (rfl)
def e_Asked_init_33 (h : MH) : MH :=
  let h1 : MH := sI h 33 0 0
  let h2 : MH := sI h1 33 1 0
  let h3 : MH := sI h2 33 2 0
  let h4 : MH := sN h3
  let h5 : MH := sR h4 33 3 34
  let h6 : MH := sN h5
  let h7 : MH := sR h6 33 4 35
  let h8 : MH := sN h7
  let h9 : MH := sR h8 33 5 36
  let h10 : MH := sN h9
  let h11 : MH := sR h10 33 6 37
  let h12 : MH := sN h11
  let h13 : MH := sR h12 33 7 38
  let h14 : MH := sN h13
  let h15 : MH := sR h14 33 8 39
  let h16 : MH := sN h15
  let h17 : MH := sR h16 33 9 40
  let h18 : MH := sN h17
  let h19 : MH := sR h18 33 10 41
  h19
def C_Asked_init_33 : MC := (KDL.take 42, true, (fun _ => 0), jsB, (fun _ _ _ => none), (fun _ _ _ => none), (fun _ _ _ => none), (fun _ _ _ => none))
def f_Asked_init_33 (h : MH) : Option MH := match Nat.beq h.1 33 with
  | true => (seg (C_Asked_init_33) 1 0 rV T_Asked_init [] (fun _ _ _ _ => none) 600 true 0 [(0, .inr (.inr (0, 0, 33)))] [] h).bind (fun r => match Nat.beq r.1 41 with
    | true => some (41, r.2)
    | false => none)
  | false => none
theorem u_Asked_init_33 {h r : MH} (hf : f_Asked_init_33 h = some r) : h.1 = 33 ∧ r.1 = 41 ∧ seg (C_Asked_init_33) 1 0 rV T_Asked_init [] (fun _ _ _ _ => none) 600 true 0 [(0, .inr (.inr (0, 0, 33)))] [] h = some r := by
  unfold f_Asked_init_33 at hf
  split at hf
  · rename_i hb
    rcases hq : seg (C_Asked_init_33) 1 0 rV T_Asked_init [] (fun _ _ _ _ => none) 600 true 0 [(0, .inr (.inr (0, 0, 33)))] [] h with _ | x
    · rw [hq] at hf; cases hf
    · rw [hq] at hf
      dsimp only [Option.bind] at hf
      split at hf
      · rename_i hc
        have hc := Nat.eq_of_beq_eq_true hc
        cases hf
        exact ⟨Nat.eq_of_beq_eq_true hb, rfl, by rw [← hc]⟩
      · cases hf
  · cases hf
theorem s_Asked_init_33 {l : Launch} {E : EV} {h r : MH} (hf : f_Asked_init_33 h = some r) : SndM l E true 0 0 [.inr (.inr (0, 0, 33))] h none r := by
  obtain ⟨u1, u2, u3⟩ := u_Asked_init_33 hf
  obtain ⟨m1, m2, m3, m4, m5⟩ := mx_Asked_init
  refine snd_of (C := C_Asked_init_33) (own := 0) (rz := 0) (lim := 41) rV_eq m2 m4 pl_0 (TB_in _ cw_0 rfl) ⟨(fun _ => ⟨_, _, _, _, _, _, rfl, rfl, by rw [m4]; rfl⟩), (fun z => by rw [m3] at z; cases z)⟩ (fun _ => by omega) rfl rfl rfl (fun _ => m5) (fun _ => u2.symm) (fun z => by cases z) (by rw [m1]; exact Nat.le_of_ble_eq_true rfl)
      (fun _ _ _ _ z => by cases z) (fun _ _ _ _ z => by cases z) (fun _ _ _ _ z => by cases z)
      (fun _ _ _ _ z => by cases z)
      (fun p e R s m args below meth c Q n0 F hret => ?_)
  rw [m1] at F hret ⊢
  rw [mc_Asked_init] at F hret
  exact seg_s F hret (chkT_ok chk_Asked_init) (fun _ _ _ _ z => by cases z) 600 true 0 _ _ _ u3
set_option maxRecDepth 1000000 in
theorem v_Asked_init_33 (hi : Nat → Nat → Int32) (hj : Nat → Nat → Int64) (hr : Nat → Nat → Nat) : f_Asked_init_33 (33, hi, hj, hr) = some (41, (e_Asked_init_33 (33, hi, hj, hr)).2) := (rfl)
def e_Ranks_init_48 (h : MH) : MH :=
  let h1 : MH := sN h
  let h2 : MH := sR h1 48 0 49
  h2
def C_Ranks_init_48 : MC := (KDL.take 50, true, (fun _ => 0), jsB, (fun _ _ _ => none), (fun _ _ _ => none), (fun _ _ _ => none), (fun _ _ _ => none))
def f_Ranks_init_48 (h : MH) : Option MH := match Nat.beq h.1 48 with
  | true => (seg (C_Ranks_init_48) 1 0 rV T_Ranks_init [] (fun _ _ _ _ => none) 600 true 0 [(0, .inr (.inr (0, 6, 48)))] [] h).bind (fun r => match Nat.beq r.1 49 with
    | true => some (49, r.2)
    | false => none)
  | false => none
theorem u_Ranks_init_48 {h r : MH} (hf : f_Ranks_init_48 h = some r) : h.1 = 48 ∧ r.1 = 49 ∧ seg (C_Ranks_init_48) 1 0 rV T_Ranks_init [] (fun _ _ _ _ => none) 600 true 0 [(0, .inr (.inr (0, 6, 48)))] [] h = some r := by
  unfold f_Ranks_init_48 at hf
  split at hf
  · rename_i hb
    rcases hq : seg (C_Ranks_init_48) 1 0 rV T_Ranks_init [] (fun _ _ _ _ => none) 600 true 0 [(0, .inr (.inr (0, 6, 48)))] [] h with _ | x
    · rw [hq] at hf; cases hf
    · rw [hq] at hf
      dsimp only [Option.bind] at hf
      split at hf
      · rename_i hc
        have hc := Nat.eq_of_beq_eq_true hc
        cases hf
        exact ⟨Nat.eq_of_beq_eq_true hb, rfl, by rw [← hc]⟩
      · cases hf
  · cases hf
theorem s_Ranks_init_48 {l : Launch} {E : EV} {h r : MH} (hf : f_Ranks_init_48 h = some r) : SndM l E true 0 45 [.inr (.inr (0, 6, 48))] h none r := by
  obtain ⟨u1, u2, u3⟩ := u_Ranks_init_48 hf
  obtain ⟨m1, m2, m3, m4, m5⟩ := mx_Ranks_init
  refine snd_of (C := C_Ranks_init_48) (own := 6) (rz := 0) (lim := 49) rV_eq m2 m4 pl_45 (TB_in _ cw_45 rfl) ⟨(fun _ => ⟨_, _, _, _, _, _, rfl, rfl, by rw [m4]; rfl⟩), (fun z => by rw [m3] at z; cases z)⟩ (fun _ => by omega) rfl rfl rfl (fun _ => m5) (fun _ => u2.symm) (fun z => by cases z) (by rw [m1]; exact Nat.le_of_ble_eq_true rfl)
      (fun _ _ _ _ z => by cases z) (fun _ _ _ _ z => by cases z) (fun _ _ _ _ z => by cases z)
      (fun _ _ _ _ z => by cases z)
      (fun p e R s m args below meth c Q n0 F hret => ?_)
  rw [m1] at F hret ⊢
  rw [mc_Ranks_init] at F hret
  exact seg_s F hret (chkT_ok chk_Ranks_init) (fun _ _ _ _ z => by cases z) 600 true 0 _ _ _ u3
set_option maxRecDepth 1000000 in
theorem v_Ranks_init_48 (hi : Nat → Nat → Int32) (hj : Nat → Nat → Int64) (hr : Nat → Nat → Nat) : f_Ranks_init_48 (48, hi, hj, hr) = some (49, (e_Ranks_init_48 (48, hi, hj, hr)).2) := (rfl)
def e_Few_init_50 (h : MH) : MH :=
  let h1 : MH := sN h
  let h2 : MH := sR h1 50 0 51
  let h3 : MH := sN h2
  let h4 : MH := sR h3 50 1 52
  let h5 : MH := sN h4
  let h6 : MH := sR h5 50 2 53
  let h7 : MH := sI h6 50 3 0
  h7
def C_Few_init_50 : MC := (KDL.take 54, true, (fun _ => 0), jsB, (fun _ _ _ => none), (fun _ _ _ => none), (fun _ _ _ => none), (fun _ _ _ => none))
def f_Few_init_50 (h : MH) : Option MH := match Nat.beq h.1 50 with
  | true => (seg (C_Few_init_50) 1 0 rV T_Few_init [] (fun _ _ _ _ => none) 600 true 0 [(0, .inr (.inr (0, 1, 50)))] [] h).bind (fun r => match Nat.beq r.1 53 with
    | true => some (53, r.2)
    | false => none)
  | false => none
theorem u_Few_init_50 {h r : MH} (hf : f_Few_init_50 h = some r) : h.1 = 50 ∧ r.1 = 53 ∧ seg (C_Few_init_50) 1 0 rV T_Few_init [] (fun _ _ _ _ => none) 600 true 0 [(0, .inr (.inr (0, 1, 50)))] [] h = some r := by
  unfold f_Few_init_50 at hf
  split at hf
  · rename_i hb
    rcases hq : seg (C_Few_init_50) 1 0 rV T_Few_init [] (fun _ _ _ _ => none) 600 true 0 [(0, .inr (.inr (0, 1, 50)))] [] h with _ | x
    · rw [hq] at hf; cases hf
    · rw [hq] at hf
      dsimp only [Option.bind] at hf
      split at hf
      · rename_i hc
        have hc := Nat.eq_of_beq_eq_true hc
        cases hf
        exact ⟨Nat.eq_of_beq_eq_true hb, rfl, by rw [← hc]⟩
      · cases hf
  · cases hf
theorem s_Few_init_50 {l : Launch} {E : EV} {h r : MH} (hf : f_Few_init_50 h = some r) : SndM l E true 0 8 [.inr (.inr (0, 1, 50))] h none r := by
  obtain ⟨u1, u2, u3⟩ := u_Few_init_50 hf
  obtain ⟨m1, m2, m3, m4, m5⟩ := mx_Few_init
  refine snd_of (C := C_Few_init_50) (own := 1) (rz := 0) (lim := 53) rV_eq m2 m4 pl_8 (TB_in _ cw_8 rfl) ⟨(fun _ => ⟨_, _, _, _, _, _, rfl, rfl, by rw [m4]; rfl⟩), (fun z => by rw [m3] at z; cases z)⟩ (fun _ => by omega) rfl rfl rfl (fun _ => m5) (fun _ => u2.symm) (fun z => by cases z) (by rw [m1]; exact Nat.le_of_ble_eq_true rfl)
      (fun _ _ _ _ z => by cases z) (fun _ _ _ _ z => by cases z) (fun _ _ _ _ z => by cases z)
      (fun _ _ _ _ z => by cases z)
      (fun p e R s m args below meth c Q n0 F hret => ?_)
  rw [m1] at F hret ⊢
  rw [mc_Few_init] at F hret
  exact seg_s F hret (chkT_ok chk_Few_init) (fun _ _ _ _ z => by cases z) 600 true 0 _ _ _ u3
set_option maxRecDepth 1000000 in
theorem v_Few_init_50 (hi : Nat → Nat → Int32) (hj : Nat → Nat → Int64) (hr : Nat → Nat → Nat) : f_Few_init_50 (50, hi, hj, hr) = some (53, (e_Few_init_50 (50, hi, hj, hr)).2) := (rfl)
def e_Land_init_54 (h : MH) : MH :=
  let h1 : MH := sN h
  let h2 : MH := sR h1 54 2 55
  let h3 : MH := sN h2
  let h4 : MH := sR h3 54 3 56
  let h5 : MH := sN h4
  let h6 : MH := sR h5 54 4 57
  let h7 : MH := sN h6
  let h8 : MH := sR h7 54 5 58
  let h9 : MH := sN h8
  let h10 : MH := sR h9 54 6 59
  h10
def C_Land_init_54 : MC := (KDL.take 60, true, (fun _ => 0), jsB, (fun _ _ _ => none), (fun _ _ _ => none), (fun _ _ _ => none), (fun _ _ _ => none))
def f_Land_init_54 (h : MH) : Option MH := match Nat.beq h.1 54 with
  | true => (seg (C_Land_init_54) 1 0 rV T_Land_init [] (fun _ _ _ _ => none) 600 true 0 [(0, .inr (.inr (0, 2, 54)))] [] h).bind (fun r => match Nat.beq r.1 59 with
    | true => some (59, r.2)
    | false => none)
  | false => none
theorem u_Land_init_54 {h r : MH} (hf : f_Land_init_54 h = some r) : h.1 = 54 ∧ r.1 = 59 ∧ seg (C_Land_init_54) 1 0 rV T_Land_init [] (fun _ _ _ _ => none) 600 true 0 [(0, .inr (.inr (0, 2, 54)))] [] h = some r := by
  unfold f_Land_init_54 at hf
  split at hf
  · rename_i hb
    rcases hq : seg (C_Land_init_54) 1 0 rV T_Land_init [] (fun _ _ _ _ => none) 600 true 0 [(0, .inr (.inr (0, 2, 54)))] [] h with _ | x
    · rw [hq] at hf; cases hf
    · rw [hq] at hf
      dsimp only [Option.bind] at hf
      split at hf
      · rename_i hc
        have hc := Nat.eq_of_beq_eq_true hc
        cases hf
        exact ⟨Nat.eq_of_beq_eq_true hb, rfl, by rw [← hc]⟩
      · cases hf
  · cases hf
theorem s_Land_init_54 {l : Launch} {E : EV} {h r : MH} (hf : f_Land_init_54 h = some r) : SndM l E true 0 12 [.inr (.inr (0, 2, 54))] h none r := by
  obtain ⟨u1, u2, u3⟩ := u_Land_init_54 hf
  obtain ⟨m1, m2, m3, m4, m5⟩ := mx_Land_init
  refine snd_of (C := C_Land_init_54) (own := 2) (rz := 0) (lim := 59) rV_eq m2 m4 pl_12 (TB_in _ cw_12 rfl) ⟨(fun _ => ⟨_, _, _, _, _, _, rfl, rfl, by rw [m4]; rfl⟩), (fun z => by rw [m3] at z; cases z)⟩ (fun _ => by omega) rfl rfl rfl (fun _ => m5) (fun _ => u2.symm) (fun z => by cases z) (by rw [m1]; exact Nat.le_of_ble_eq_true rfl)
      (fun _ _ _ _ z => by cases z) (fun _ _ _ _ z => by cases z) (fun _ _ _ _ z => by cases z)
      (fun _ _ _ _ z => by cases z)
      (fun p e R s m args below meth c Q n0 F hret => ?_)
  rw [m1] at F hret ⊢
  rw [mc_Land_init] at F hret
  exact seg_s F hret (chkT_ok chk_Land_init) (fun _ _ _ _ z => by cases z) 600 true 0 _ _ _ u3
set_option maxRecDepth 1000000 in
theorem v_Land_init_54 (hi : Nat → Nat → Int32) (hj : Nat → Nat → Int64) (hr : Nat → Nat → Nat) : f_Land_init_54 (54, hi, hj, hr) = some (59, (e_Land_init_54 (54, hi, hj, hr)).2) := (rfl)
def e_Tray_init_60 (h : MH) : MH :=
  let h1 : MH := sN h
  let h2 : MH := sR h1 60 0 61
  let h3 : MH := sI h2 60 1 0
  let h4 : MH := sI h3 60 2 (-1)
  h4
def C_Tray_init_60 : MC := (KDL.take 62, true, (fun _ => 0), jsB, (fun _ _ _ => none), (fun _ _ _ => none), (fun _ _ _ => none), (fun _ _ _ => none))
def f_Tray_init_60 (h : MH) : Option MH := match Nat.beq h.1 60 with
  | true => (seg (C_Tray_init_60) 1 0 rV T_Tray_init [] (fun _ _ _ _ => none) 600 true 0 [(0, .inr (.inr (0, 9, 60)))] [] h).bind (fun r => match Nat.beq r.1 61 with
    | true => some (61, r.2)
    | false => none)
  | false => none
theorem u_Tray_init_60 {h r : MH} (hf : f_Tray_init_60 h = some r) : h.1 = 60 ∧ r.1 = 61 ∧ seg (C_Tray_init_60) 1 0 rV T_Tray_init [] (fun _ _ _ _ => none) 600 true 0 [(0, .inr (.inr (0, 9, 60)))] [] h = some r := by
  unfold f_Tray_init_60 at hf
  split at hf
  · rename_i hb
    rcases hq : seg (C_Tray_init_60) 1 0 rV T_Tray_init [] (fun _ _ _ _ => none) 600 true 0 [(0, .inr (.inr (0, 9, 60)))] [] h with _ | x
    · rw [hq] at hf; cases hf
    · rw [hq] at hf
      dsimp only [Option.bind] at hf
      split at hf
      · rename_i hc
        have hc := Nat.eq_of_beq_eq_true hc
        cases hf
        exact ⟨Nat.eq_of_beq_eq_true hb, rfl, by rw [← hc]⟩
      · cases hf
  · cases hf
theorem s_Tray_init_60 {l : Launch} {E : EV} {h r : MH} (hf : f_Tray_init_60 h = some r) : SndM l E true 0 83 [.inr (.inr (0, 9, 60))] h none r := by
  obtain ⟨u1, u2, u3⟩ := u_Tray_init_60 hf
  obtain ⟨m1, m2, m3, m4, m5⟩ := mx_Tray_init
  refine snd_of (C := C_Tray_init_60) (own := 9) (rz := 0) (lim := 61) rV_eq m2 m4 pl_83 (TB_in _ cw_83 rfl) ⟨(fun _ => ⟨_, _, _, _, _, _, rfl, rfl, by rw [m4]; rfl⟩), (fun z => by rw [m3] at z; cases z)⟩ (fun _ => by omega) rfl rfl rfl (fun _ => m5) (fun _ => u2.symm) (fun z => by cases z) (by rw [m1]; exact Nat.le_of_ble_eq_true rfl)
      (fun _ _ _ _ z => by cases z) (fun _ _ _ _ z => by cases z) (fun _ _ _ _ z => by cases z)
      (fun _ _ _ _ z => by cases z)
      (fun p e R s m args below meth c Q n0 F hret => ?_)
  rw [m1] at F hret ⊢
  rw [mc_Tray_init] at F hret
  exact seg_s F hret (chkT_ok chk_Tray_init) (fun _ _ _ _ z => by cases z) 600 true 0 _ _ _ u3
set_option maxRecDepth 1000000 in
theorem v_Tray_init_60 (hi : Nat → Nat → Int32) (hj : Nat → Nat → Int64) (hr : Nat → Nat → Nat) : f_Tray_init_60 (60, hi, hj, hr) = some (61, (e_Tray_init_60 (60, hi, hj, hr)).2) := (rfl)
def e_Tray_init_62 (h : MH) : MH :=
  let h1 : MH := sN h
  let h2 : MH := sR h1 62 0 63
  let h3 : MH := sI h2 62 1 0
  let h4 : MH := sI h3 62 2 (-1)
  h4
def C_Tray_init_62 : MC := (KDL.take 64, true, (fun _ => 0), jsB, (fun _ _ _ => none), (fun _ _ _ => none), (fun _ _ _ => none), (fun _ _ _ => none))
def f_Tray_init_62 (h : MH) : Option MH := match Nat.beq h.1 62 with
  | true => (seg (C_Tray_init_62) 1 0 rV T_Tray_init [] (fun _ _ _ _ => none) 600 true 0 [(0, .inr (.inr (0, 9, 62)))] [] h).bind (fun r => match Nat.beq r.1 63 with
    | true => some (63, r.2)
    | false => none)
  | false => none
theorem u_Tray_init_62 {h r : MH} (hf : f_Tray_init_62 h = some r) : h.1 = 62 ∧ r.1 = 63 ∧ seg (C_Tray_init_62) 1 0 rV T_Tray_init [] (fun _ _ _ _ => none) 600 true 0 [(0, .inr (.inr (0, 9, 62)))] [] h = some r := by
  unfold f_Tray_init_62 at hf
  split at hf
  · rename_i hb
    rcases hq : seg (C_Tray_init_62) 1 0 rV T_Tray_init [] (fun _ _ _ _ => none) 600 true 0 [(0, .inr (.inr (0, 9, 62)))] [] h with _ | x
    · rw [hq] at hf; cases hf
    · rw [hq] at hf
      dsimp only [Option.bind] at hf
      split at hf
      · rename_i hc
        have hc := Nat.eq_of_beq_eq_true hc
        cases hf
        exact ⟨Nat.eq_of_beq_eq_true hb, rfl, by rw [← hc]⟩
      · cases hf
  · cases hf
theorem s_Tray_init_62 {l : Launch} {E : EV} {h r : MH} (hf : f_Tray_init_62 h = some r) : SndM l E true 0 83 [.inr (.inr (0, 9, 62))] h none r := by
  obtain ⟨u1, u2, u3⟩ := u_Tray_init_62 hf
  obtain ⟨m1, m2, m3, m4, m5⟩ := mx_Tray_init
  refine snd_of (C := C_Tray_init_62) (own := 9) (rz := 0) (lim := 63) rV_eq m2 m4 pl_83 (TB_in _ cw_83 rfl) ⟨(fun _ => ⟨_, _, _, _, _, _, rfl, rfl, by rw [m4]; rfl⟩), (fun z => by rw [m3] at z; cases z)⟩ (fun _ => by omega) rfl rfl rfl (fun _ => m5) (fun _ => u2.symm) (fun z => by cases z) (by rw [m1]; exact Nat.le_of_ble_eq_true rfl)
      (fun _ _ _ _ z => by cases z) (fun _ _ _ _ z => by cases z) (fun _ _ _ _ z => by cases z)
      (fun _ _ _ _ z => by cases z)
      (fun p e R s m args below meth c Q n0 F hret => ?_)
  rw [m1] at F hret ⊢
  rw [mc_Tray_init] at F hret
  exact seg_s F hret (chkT_ok chk_Tray_init) (fun _ _ _ _ z => by cases z) 600 true 0 _ _ _ u3
set_option maxRecDepth 1000000 in
theorem v_Tray_init_62 (hi : Nat → Nat → Int32) (hj : Nat → Nat → Int64) (hr : Nat → Nat → Nat) : f_Tray_init_62 (62, hi, hj, hr) = some (63, (e_Tray_init_62 (62, hi, hj, hr)).2) := (rfl)
def e_Tray_init_64 (h : MH) : MH :=
  let h1 : MH := sN h
  let h2 : MH := sR h1 64 0 65
  let h3 : MH := sI h2 64 1 0
  let h4 : MH := sI h3 64 2 (-1)
  h4
def C_Tray_init_64 : MC := (KDL.take 66, true, (fun _ => 0), jsB, (fun _ _ _ => none), (fun _ _ _ => none), (fun _ _ _ => none), (fun _ _ _ => none))
def f_Tray_init_64 (h : MH) : Option MH := match Nat.beq h.1 64 with
  | true => (seg (C_Tray_init_64) 1 0 rV T_Tray_init [] (fun _ _ _ _ => none) 600 true 0 [(0, .inr (.inr (0, 9, 64)))] [] h).bind (fun r => match Nat.beq r.1 65 with
    | true => some (65, r.2)
    | false => none)
  | false => none
theorem u_Tray_init_64 {h r : MH} (hf : f_Tray_init_64 h = some r) : h.1 = 64 ∧ r.1 = 65 ∧ seg (C_Tray_init_64) 1 0 rV T_Tray_init [] (fun _ _ _ _ => none) 600 true 0 [(0, .inr (.inr (0, 9, 64)))] [] h = some r := by
  unfold f_Tray_init_64 at hf
  split at hf
  · rename_i hb
    rcases hq : seg (C_Tray_init_64) 1 0 rV T_Tray_init [] (fun _ _ _ _ => none) 600 true 0 [(0, .inr (.inr (0, 9, 64)))] [] h with _ | x
    · rw [hq] at hf; cases hf
    · rw [hq] at hf
      dsimp only [Option.bind] at hf
      split at hf
      · rename_i hc
        have hc := Nat.eq_of_beq_eq_true hc
        cases hf
        exact ⟨Nat.eq_of_beq_eq_true hb, rfl, by rw [← hc]⟩
      · cases hf
  · cases hf
theorem s_Tray_init_64 {l : Launch} {E : EV} {h r : MH} (hf : f_Tray_init_64 h = some r) : SndM l E true 0 83 [.inr (.inr (0, 9, 64))] h none r := by
  obtain ⟨u1, u2, u3⟩ := u_Tray_init_64 hf
  obtain ⟨m1, m2, m3, m4, m5⟩ := mx_Tray_init
  refine snd_of (C := C_Tray_init_64) (own := 9) (rz := 0) (lim := 65) rV_eq m2 m4 pl_83 (TB_in _ cw_83 rfl) ⟨(fun _ => ⟨_, _, _, _, _, _, rfl, rfl, by rw [m4]; rfl⟩), (fun z => by rw [m3] at z; cases z)⟩ (fun _ => by omega) rfl rfl rfl (fun _ => m5) (fun _ => u2.symm) (fun z => by cases z) (by rw [m1]; exact Nat.le_of_ble_eq_true rfl)
      (fun _ _ _ _ z => by cases z) (fun _ _ _ _ z => by cases z) (fun _ _ _ _ z => by cases z)
      (fun _ _ _ _ z => by cases z)
      (fun p e R s m args below meth c Q n0 F hret => ?_)
  rw [m1] at F hret ⊢
  rw [mc_Tray_init] at F hret
  exact seg_s F hret (chkT_ok chk_Tray_init) (fun _ _ _ _ z => by cases z) 600 true 0 _ _ _ u3
set_option maxRecDepth 1000000 in
theorem v_Tray_init_64 (hi : Nat → Nat → Int32) (hj : Nat → Nat → Int64) (hr : Nat → Nat → Nat) : f_Tray_init_64 (64, hi, hj, hr) = some (65, (e_Tray_init_64 (64, hi, hj, hr)).2) := (rfl)
def e_Tray_init_66 (h : MH) : MH :=
  let h1 : MH := sN h
  let h2 : MH := sR h1 66 0 67
  let h3 : MH := sI h2 66 1 0
  let h4 : MH := sI h3 66 2 (-1)
  h4
def C_Tray_init_66 : MC := (KDL.take 68, true, (fun _ => 0), jsB, (fun _ _ _ => none), (fun _ _ _ => none), (fun _ _ _ => none), (fun _ _ _ => none))
def f_Tray_init_66 (h : MH) : Option MH := match Nat.beq h.1 66 with
  | true => (seg (C_Tray_init_66) 1 0 rV T_Tray_init [] (fun _ _ _ _ => none) 600 true 0 [(0, .inr (.inr (0, 9, 66)))] [] h).bind (fun r => match Nat.beq r.1 67 with
    | true => some (67, r.2)
    | false => none)
  | false => none
theorem u_Tray_init_66 {h r : MH} (hf : f_Tray_init_66 h = some r) : h.1 = 66 ∧ r.1 = 67 ∧ seg (C_Tray_init_66) 1 0 rV T_Tray_init [] (fun _ _ _ _ => none) 600 true 0 [(0, .inr (.inr (0, 9, 66)))] [] h = some r := by
  unfold f_Tray_init_66 at hf
  split at hf
  · rename_i hb
    rcases hq : seg (C_Tray_init_66) 1 0 rV T_Tray_init [] (fun _ _ _ _ => none) 600 true 0 [(0, .inr (.inr (0, 9, 66)))] [] h with _ | x
    · rw [hq] at hf; cases hf
    · rw [hq] at hf
      dsimp only [Option.bind] at hf
      split at hf
      · rename_i hc
        have hc := Nat.eq_of_beq_eq_true hc
        cases hf
        exact ⟨Nat.eq_of_beq_eq_true hb, rfl, by rw [← hc]⟩
      · cases hf
  · cases hf
theorem s_Tray_init_66 {l : Launch} {E : EV} {h r : MH} (hf : f_Tray_init_66 h = some r) : SndM l E true 0 83 [.inr (.inr (0, 9, 66))] h none r := by
  obtain ⟨u1, u2, u3⟩ := u_Tray_init_66 hf
  obtain ⟨m1, m2, m3, m4, m5⟩ := mx_Tray_init
  refine snd_of (C := C_Tray_init_66) (own := 9) (rz := 0) (lim := 67) rV_eq m2 m4 pl_83 (TB_in _ cw_83 rfl) ⟨(fun _ => ⟨_, _, _, _, _, _, rfl, rfl, by rw [m4]; rfl⟩), (fun z => by rw [m3] at z; cases z)⟩ (fun _ => by omega) rfl rfl rfl (fun _ => m5) (fun _ => u2.symm) (fun z => by cases z) (by rw [m1]; exact Nat.le_of_ble_eq_true rfl)
      (fun _ _ _ _ z => by cases z) (fun _ _ _ _ z => by cases z) (fun _ _ _ _ z => by cases z)
      (fun _ _ _ _ z => by cases z)
      (fun p e R s m args below meth c Q n0 F hret => ?_)
  rw [m1] at F hret ⊢
  rw [mc_Tray_init] at F hret
  exact seg_s F hret (chkT_ok chk_Tray_init) (fun _ _ _ _ z => by cases z) 600 true 0 _ _ _ u3
set_option maxRecDepth 1000000 in
theorem v_Tray_init_66 (hi : Nat → Nat → Int32) (hj : Nat → Nat → Int64) (hr : Nat → Nat → Nat) : f_Tray_init_66 (66, hi, hj, hr) = some (67, (e_Tray_init_66 (66, hi, hj, hr)).2) := (rfl)
