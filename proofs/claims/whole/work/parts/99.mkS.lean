/-! MAKERS: the class -/
def C_S_init_1 (N : Nat) : MC := (KDL.take 68, true, (fun _ => 0), jsB, (fun _ _ _ => none), (fun _ _ _ => none), (fun _ _ _ => none), (fun j => match Nat.beq j 0 with
    | true => (fun as h => (match as with
      | [.inr (.inr (0, 0, 33))] => f_Asked_init_33 h
      | _ => none))
    | false => match Nat.beq j 8 with
    | true => (fun as h => (match as with
      | [.inr (.inr (0, 1, 50))] => f_Few_init_50 h
      | _ => none))
    | false => match Nat.beq j 12 with
    | true => (fun as h => (match as with
      | [.inr (.inr (0, 2, 54))] => f_Land_init_54 h
      | _ => none))
    | false => match Nat.beq j 17 with
    | true => (fun as h => (match as with
      | [.inr (.inr (0, 3, 16))] => f_Ledger_init_16 h
      | _ => none))
    | false => match Nat.beq j 29 with
    | true => (fun as h => (match as with
      | [.inr (.inr (0, 4, 28))] => f_Line_init_28 h
      | _ => none))
    | false => match Nat.beq j 45 with
    | true => (fun as h => (match as with
      | [.inr (.inr (0, 6, 48))] => f_Ranks_init_48 h
      | _ => none))
    | false => match Nat.beq j 51 with
    | true => (fun as h => (match as with
      | [.inr (.inr (0, 7, 3))] => f_Reader_init_3 h
      | _ => none))
    | false => match Nat.beq j 79 with
    | true => (fun as h => (match as with
      | [.inr (.inr (0, 8, 29))] => f_Shakes_init_29 h
      | _ => none))
    | false => match Nat.beq j 83 with
    | true => (fun as h => (match as with
      | [.inr (.inr (0, 9, 60))] => f_Tray_init_60 h
      | [.inr (.inr (0, 9, 62))] => f_Tray_init_62 h
      | [.inr (.inr (0, 9, 64))] => f_Tray_init_64 h
      | [.inr (.inr (0, 9, 66))] => f_Tray_init_66 h
      | _ => none))
    | false => match Nat.beq j 91 with
    | true => (fun as h => (match as with
      | [.inr (.inr (0, 10, 42))] => f_Walk_init_42 N h
      | _ => none))
    | false => fun _ _ => none))
def f_S_init_1 (N : Nat) (h : MH) : Option MH := match Nat.beq h.1 1 with
  | true => (seg (C_S_init_1 N) 2 0 rV T_S_init [] (fun _ _ _ _ => none) 600 true 0 [(0, .inr (.inr (0, 11, 1)))] [] h).bind (fun r => match Nat.beq r.1 67 with
    | true => some (67, r.2)
    | false => none)
  | false => none
theorem u_S_init_1 {N : Nat} {h r : MH} (hf : f_S_init_1 N h = some r) : h.1 = 1 ∧ r.1 = 67 ∧ seg (C_S_init_1 N) 2 0 rV T_S_init [] (fun _ _ _ _ => none) 600 true 0 [(0, .inr (.inr (0, 11, 1)))] [] h = some r := by
  unfold f_S_init_1 at hf
  split at hf
  · rename_i hb
    rcases hq : seg (C_S_init_1 N) 2 0 rV T_S_init [] (fun _ _ _ _ => none) 600 true 0 [(0, .inr (.inr (0, 11, 1)))] [] h with _ | x
    · rw [hq] at hf; cases hf
    · rw [hq] at hf
      dsimp only [Option.bind] at hf
      split at hf
      · rename_i hc
        have hc := Nat.eq_of_beq_eq_true hc
        cases hf
        exact ⟨Nat.eq_of_beq_eq_true hb, rfl, by rw [← hc]⟩
      · cases hf
  · cases hf
theorem s_S_init_1 {l : Launch} {E : EV} {N : Nat} {h r : MH} (hf : f_S_init_1 N h = some r) : SndM l E true 2 108 [.inr (.inr (0, 11, 1))] h none r := by
  obtain ⟨u1, u2, u3⟩ := u_S_init_1 hf
  obtain ⟨m1, m2, m3, m4, m5⟩ := mx_S_init
  refine snd_of (C := C_S_init_1 N) (own := 11) (rz := 0) (lim := 67) rV_eq m2 m4 pl_108 (TB_in _ cw_108 rfl) ⟨(fun _ => ⟨_, _, _, _, _, _, rfl, rfl, by rw [m4]; rfl⟩), (fun z => by rw [m3] at z; cases z)⟩ (fun _ => by omega) rfl rfl rfl (fun _ => m5) (fun _ => u2.symm) (fun z => by cases z) (by rw [m1]; exact Nat.le_of_ble_eq_true rfl)
      (fun _ _ _ _ z => by cases z) (fun _ _ _ _ z => by cases z) (fun _ _ _ _ z => by cases z)
      (fun j as h x z => by
      dsimp only [C_S_init_1] at z
      cases hb : Nat.beq j 0 with
      | true =>
        have hb := Nat.eq_of_beq_eq_true hb
        subst hb
        rw [show Nat.beq 0 0 = true from rfl] at z
        dsimp only at z
        split at z
        · exact ⟨0, by decide, (fun _ => by rw [(u_Asked_init_33 z).2.1]; decide), s_Asked_init_33 z⟩
        · cases z
      | false =>
        rw [hb] at z
        dsimp only at z
        cases hb : Nat.beq j 8 with
        | true =>
          have hb := Nat.eq_of_beq_eq_true hb
          subst hb
          rw [show Nat.beq 8 8 = true from rfl] at z
          dsimp only at z
          split at z
          · exact ⟨0, by decide, (fun _ => by rw [(u_Few_init_50 z).2.1]; decide), s_Few_init_50 z⟩
          · cases z
        | false =>
          rw [hb] at z
          dsimp only at z
          cases hb : Nat.beq j 12 with
          | true =>
            have hb := Nat.eq_of_beq_eq_true hb
            subst hb
            rw [show Nat.beq 12 12 = true from rfl] at z
            dsimp only at z
            split at z
            · exact ⟨0, by decide, (fun _ => by rw [(u_Land_init_54 z).2.1]; decide), s_Land_init_54 z⟩
            · cases z
          | false =>
            rw [hb] at z
            dsimp only at z
            cases hb : Nat.beq j 17 with
            | true =>
              have hb := Nat.eq_of_beq_eq_true hb
              subst hb
              rw [show Nat.beq 17 17 = true from rfl] at z
              dsimp only at z
              split at z
              · exact ⟨0, by decide, (fun _ => by rw [(u_Ledger_init_16 z).2.1]; decide), s_Ledger_init_16 z⟩
              · cases z
            | false =>
              rw [hb] at z
              dsimp only at z
              cases hb : Nat.beq j 29 with
              | true =>
                have hb := Nat.eq_of_beq_eq_true hb
                subst hb
                rw [show Nat.beq 29 29 = true from rfl] at z
                dsimp only at z
                split at z
                · exact ⟨0, by decide, (fun _ => by rw [(u_Line_init_28 z).2.1]; decide), s_Line_init_28 z⟩
                · cases z
              | false =>
                rw [hb] at z
                dsimp only at z
                cases hb : Nat.beq j 45 with
                | true =>
                  have hb := Nat.eq_of_beq_eq_true hb
                  subst hb
                  rw [show Nat.beq 45 45 = true from rfl] at z
                  dsimp only at z
                  split at z
                  · exact ⟨0, by decide, (fun _ => by rw [(u_Ranks_init_48 z).2.1]; decide), s_Ranks_init_48 z⟩
                  · cases z
                | false =>
                  rw [hb] at z
                  dsimp only at z
                  cases hb : Nat.beq j 51 with
                  | true =>
                    have hb := Nat.eq_of_beq_eq_true hb
                    subst hb
                    rw [show Nat.beq 51 51 = true from rfl] at z
                    dsimp only at z
                    split at z
                    · exact ⟨1, by decide, (fun _ => by rw [(u_Reader_init_3 z).2.1]; decide), s_Reader_init_3 z⟩
                    · cases z
                  | false =>
                    rw [hb] at z
                    dsimp only at z
                    cases hb : Nat.beq j 79 with
                    | true =>
                      have hb := Nat.eq_of_beq_eq_true hb
                      subst hb
                      rw [show Nat.beq 79 79 = true from rfl] at z
                      dsimp only at z
                      split at z
                      · exact ⟨0, by decide, (fun _ => by rw [(u_Shakes_init_29 z).2.1]; decide), s_Shakes_init_29 z⟩
                      · cases z
                    | false =>
                      rw [hb] at z
                      dsimp only at z
                      cases hb : Nat.beq j 83 with
                      | true =>
                        have hb := Nat.eq_of_beq_eq_true hb
                        subst hb
                        rw [show Nat.beq 83 83 = true from rfl] at z
                        dsimp only at z
                        split at z
                        · exact ⟨0, by decide, (fun _ => by rw [(u_Tray_init_60 z).2.1]; decide), s_Tray_init_60 z⟩
                        · exact ⟨0, by decide, (fun _ => by rw [(u_Tray_init_62 z).2.1]; decide), s_Tray_init_62 z⟩
                        · exact ⟨0, by decide, (fun _ => by rw [(u_Tray_init_64 z).2.1]; decide), s_Tray_init_64 z⟩
                        · exact ⟨0, by decide, (fun _ => by rw [(u_Tray_init_66 z).2.1]; decide), s_Tray_init_66 z⟩
                        · cases z
                      | false =>
                        rw [hb] at z
                        dsimp only at z
                        cases hb : Nat.beq j 91 with
                        | true =>
                          have hb := Nat.eq_of_beq_eq_true hb
                          subst hb
                          rw [show Nat.beq 91 91 = true from rfl] at z
                          dsimp only at z
                          split at z
                          · exact ⟨0, by decide, (fun _ => by rw [(u_Walk_init_42 z).2.1]; decide), s_Walk_init_42 z⟩
                          · cases z
                        | false =>
                          rw [hb] at z
                          dsimp only at z
                          cases z)
      (fun p e R s m args below meth c Q n0 F hret => ?_)
  rw [m1] at F hret ⊢
  rw [mc_S_init] at F hret
  exact seg_s F hret (chkT_ok chk_S_init) (fun _ _ _ _ z => by cases z) 600 true 0 _ _ _ u3
theorem vp_Land_init_5 {h : MH} (e : h.1 = 5) : f_Land_init_5 h = some (10, (e_Land_init_5 h).2) := by
  obtain ⟨c, hi, hj, hr⟩ := h
  simp only at e
  subst e
  exact v_Land_init_5 hi hj hr
theorem vp_Names_init_11 {h : MH} (e : h.1 = 11) : f_Names_init_11 h = some (15, (e_Names_init_11 h).2) := by
  obtain ⟨c, hi, hj, hr⟩ := h
  simp only at e
  subst e
  exact v_Names_init_11 hi hj hr
theorem vp_Reader_init_3 {h : MH} (e : h.1 = 3) : f_Reader_init_3 h = some (15, (e_Reader_init_3 h).2) := by
  obtain ⟨c, hi, hj, hr⟩ := h
  simp only at e
  subst e
  exact v_Reader_init_3 hi hj hr
theorem vp_Ledger_init_16 {h : MH} (e : h.1 = 16) : f_Ledger_init_16 h = some (27, (e_Ledger_init_16 h).2) := by
  obtain ⟨c, hi, hj, hr⟩ := h
  simp only at e
  subst e
  exact v_Ledger_init_16 hi hj hr
theorem vp_Line_init_28 {h : MH} (e : h.1 = 28) : f_Line_init_28 h = some (28, (e_Line_init_28 h).2) := by
  obtain ⟨c, hi, hj, hr⟩ := h
  simp only at e
  subst e
  exact v_Line_init_28 hi hj hr
theorem vp_Shakes_init_29 {h : MH} (e : h.1 = 29) : f_Shakes_init_29 h = some (32, (e_Shakes_init_29 h).2) := by
  obtain ⟨c, hi, hj, hr⟩ := h
  simp only at e
  subst e
  exact v_Shakes_init_29 hi hj hr
theorem vp_Asked_init_33 {h : MH} (e : h.1 = 33) : f_Asked_init_33 h = some (41, (e_Asked_init_33 h).2) := by
  obtain ⟨c, hi, hj, hr⟩ := h
  simp only at e
  subst e
  exact v_Asked_init_33 hi hj hr
theorem vp_Ranks_init_48 {h : MH} (e : h.1 = 48) : f_Ranks_init_48 h = some (49, (e_Ranks_init_48 h).2) := by
  obtain ⟨c, hi, hj, hr⟩ := h
  simp only at e
  subst e
  exact v_Ranks_init_48 hi hj hr
theorem vp_Few_init_50 {h : MH} (e : h.1 = 50) : f_Few_init_50 h = some (53, (e_Few_init_50 h).2) := by
  obtain ⟨c, hi, hj, hr⟩ := h
  simp only at e
  subst e
  exact v_Few_init_50 hi hj hr
theorem vp_Land_init_54 {h : MH} (e : h.1 = 54) : f_Land_init_54 h = some (59, (e_Land_init_54 h).2) := by
  obtain ⟨c, hi, hj, hr⟩ := h
  simp only at e
  subst e
  exact v_Land_init_54 hi hj hr
theorem vp_Tray_init_60 {h : MH} (e : h.1 = 60) : f_Tray_init_60 h = some (61, (e_Tray_init_60 h).2) := by
  obtain ⟨c, hi, hj, hr⟩ := h
  simp only at e
  subst e
  exact v_Tray_init_60 hi hj hr
theorem vp_Tray_init_62 {h : MH} (e : h.1 = 62) : f_Tray_init_62 h = some (63, (e_Tray_init_62 h).2) := by
  obtain ⟨c, hi, hj, hr⟩ := h
  simp only at e
  subst e
  exact v_Tray_init_62 hi hj hr
theorem vp_Tray_init_64 {h : MH} (e : h.1 = 64) : f_Tray_init_64 h = some (65, (e_Tray_init_64 h).2) := by
  obtain ⟨c, hi, hj, hr⟩ := h
  simp only at e
  subst e
  exact v_Tray_init_64 hi hj hr
theorem vp_Tray_init_66 {h : MH} (e : h.1 = 66) : f_Tray_init_66 h = some (67, (e_Tray_init_66 h).2) := by
  obtain ⟨c, hi, hj, hr⟩ := h
  simp only at e
  subst e
  exact v_Tray_init_66 hi hj hr
theorem vp_M_init_68 {h : MH} (e : h.1 = 68) : f_M_init_68 h = some (115, (e_M_init_68 h).2) := by
  obtain ⟨c, hi, hj, hr⟩ := h
  simp only at e
  subst e
  exact v_M_init_68 hi hj hr
theorem sR_self {h : MH} (t : gR h 1 0 = 2) : sR h 1 0 2 = h := by
  obtain ⟨c, hi, hj, hr⟩ := h
  have t : hr 1 0 = 2 := t
  have e : (fun a b => if a = 1 ∧ b = 0 then 2 else hr a b) = hr := by
    funext a b
    by_cases z : a = 1 ∧ b = 0
    · rw [if_pos z, z.1, z.2, t]
    · rw [if_neg z]
  show (c, hi, hj, (fun a b => if a = 1 ∧ b = 0 then 2 else hr a b)) = _
  rw [e]
def g_S_0 (h : MH) : MH :=
  let h0 : MH := sN h
  let h1 : MH := sR h0 1 0 2
  let h2 : MH := sN h1
  h2
set_option maxRecDepth 1000000 in
theorem st_S_0 (N : Nat) {h : MH} (e : h.1 = 1) : seg (C_S_init_1 N) 2 0 rV T_S_init [] (fun _ _ _ _ => none) 600 true 0 [(0, .inr (.inr (0, 11, 1)))] [] h = (f_Reader_init_3 (g_S_0 h)).bind (fun x => seg (C_S_init_1 N) 2 0 rV T_S_init [] (fun _ _ _ _ => none) 590 false 20 [(0, .inr (.inr (0, 11, 1)))] [.inr (.inr (0, 7, 3)), .inr (.inr (0, 11, 1))] x) := by
  obtain ⟨c, hi, hj, hr⟩ := h
  simp only at e
  subst e
  rfl
def g_S_1 (h : MH) : MH :=
  let h0 : MH := sR h 1 1 3
  let h1 : MH := sN h0
  h1
set_option maxRecDepth 1000000 in
theorem st_S_1 (N : Nat) {h : MH} (e : h.1 = 15) : seg (C_S_init_1 N) 2 0 rV T_S_init [] (fun _ _ _ _ => none) 590 false 20 [(0, .inr (.inr (0, 11, 1)))] [.inr (.inr (0, 7, 3)), .inr (.inr (0, 11, 1))] h = (f_Ledger_init_16 (g_S_1 h)).bind (fun x => seg (C_S_init_1 N) 2 0 rV T_S_init [] (fun _ _ _ _ => none) 585 false 31 [(0, .inr (.inr (0, 11, 1)))] [.inr (.inr (0, 3, 16)), .inr (.inr (0, 11, 1))] x) := by
  obtain ⟨c, hi, hj, hr⟩ := h
  simp only at e
  subst e
  rfl
def g_S_2 (h : MH) : MH :=
  let h0 : MH := sR h 1 2 16
  let h1 : MH := sN h0
  h1
set_option maxRecDepth 1000000 in
theorem st_S_2 (N : Nat) {h : MH} (e : h.1 = 27) : seg (C_S_init_1 N) 2 0 rV T_S_init [] (fun _ _ _ _ => none) 585 false 31 [(0, .inr (.inr (0, 11, 1)))] [.inr (.inr (0, 3, 16)), .inr (.inr (0, 11, 1))] h = (f_Line_init_28 (g_S_2 h)).bind (fun x => seg (C_S_init_1 N) 2 0 rV T_S_init [] (fun _ _ _ _ => none) 580 false 42 [(0, .inr (.inr (0, 11, 1)))] [.inr (.inr (0, 4, 28)), .inr (.inr (0, 11, 1))] x) := by
  obtain ⟨c, hi, hj, hr⟩ := h
  simp only at e
  subst e
  rfl
def g_S_3 (h : MH) : MH :=
  let h0 : MH := sR h 1 3 28
  let h1 : MH := sN h0
  h1
set_option maxRecDepth 1000000 in
theorem st_S_3 (N : Nat) {h : MH} (e : h.1 = 28) : seg (C_S_init_1 N) 2 0 rV T_S_init [] (fun _ _ _ _ => none) 580 false 42 [(0, .inr (.inr (0, 11, 1)))] [.inr (.inr (0, 4, 28)), .inr (.inr (0, 11, 1))] h = (f_Shakes_init_29 (g_S_3 h)).bind (fun x => seg (C_S_init_1 N) 2 0 rV T_S_init [] (fun _ _ _ _ => none) 575 false 53 [(0, .inr (.inr (0, 11, 1)))] [.inr (.inr (0, 8, 29)), .inr (.inr (0, 11, 1))] x) := by
  obtain ⟨c, hi, hj, hr⟩ := h
  simp only at e
  subst e
  rfl
def g_S_4 (h : MH) : MH :=
  let h0 : MH := sR h 1 4 29
  let h1 : MH := sN h0
  h1
set_option maxRecDepth 1000000 in
theorem st_S_4 (N : Nat) {h : MH} (e : h.1 = 32) : seg (C_S_init_1 N) 2 0 rV T_S_init [] (fun _ _ _ _ => none) 575 false 53 [(0, .inr (.inr (0, 11, 1)))] [.inr (.inr (0, 8, 29)), .inr (.inr (0, 11, 1))] h = (f_Asked_init_33 (g_S_4 h)).bind (fun x => seg (C_S_init_1 N) 2 0 rV T_S_init [] (fun _ _ _ _ => none) 570 false 64 [(0, .inr (.inr (0, 11, 1)))] [.inr (.inr (0, 0, 33)), .inr (.inr (0, 11, 1))] x) := by
  obtain ⟨c, hi, hj, hr⟩ := h
  simp only at e
  subst e
  rfl
def g_S_5 (h : MH) : MH :=
  let h0 : MH := sR h 1 5 33
  let h1 : MH := sN h0
  h1
set_option maxRecDepth 1000000 in
theorem st_S_5 (N : Nat) {h : MH} (e : h.1 = 41) : seg (C_S_init_1 N) 2 0 rV T_S_init [] (fun _ _ _ _ => none) 570 false 64 [(0, .inr (.inr (0, 11, 1)))] [.inr (.inr (0, 0, 33)), .inr (.inr (0, 11, 1))] h = (f_Walk_init_42 N (g_S_5 h)).bind (fun x => seg (C_S_init_1 N) 2 0 rV T_S_init [] (fun _ _ _ _ => none) 565 false 75 [(0, .inr (.inr (0, 11, 1)))] [.inr (.inr (0, 10, 42)), .inr (.inr (0, 11, 1))] x) := by
  obtain ⟨c, hi, hj, hr⟩ := h
  simp only at e
  subst e
  rfl
def g_S_6 (h : MH) : MH :=
  let h0 : MH := sR h 1 6 42
  let h1 : MH := sN h0
  h1
set_option maxRecDepth 1000000 in
theorem st_S_6 (N : Nat) {h : MH} (e : h.1 = 47) : seg (C_S_init_1 N) 2 0 rV T_S_init [] (fun _ _ _ _ => none) 565 false 75 [(0, .inr (.inr (0, 11, 1)))] [.inr (.inr (0, 10, 42)), .inr (.inr (0, 11, 1))] h = (f_Ranks_init_48 (g_S_6 h)).bind (fun x => seg (C_S_init_1 N) 2 0 rV T_S_init [] (fun _ _ _ _ => none) 560 false 86 [(0, .inr (.inr (0, 11, 1)))] [.inr (.inr (0, 6, 48)), .inr (.inr (0, 11, 1))] x) := by
  obtain ⟨c, hi, hj, hr⟩ := h
  simp only at e
  subst e
  rfl
def g_S_7 (h : MH) : MH :=
  let h0 : MH := sR h 1 7 48
  let h1 : MH := sN h0
  h1
set_option maxRecDepth 1000000 in
theorem st_S_7 (N : Nat) {h : MH} (e : h.1 = 49) : seg (C_S_init_1 N) 2 0 rV T_S_init [] (fun _ _ _ _ => none) 560 false 86 [(0, .inr (.inr (0, 11, 1)))] [.inr (.inr (0, 6, 48)), .inr (.inr (0, 11, 1))] h = (f_Few_init_50 (g_S_7 h)).bind (fun x => seg (C_S_init_1 N) 2 0 rV T_S_init [] (fun _ _ _ _ => none) 555 false 97 [(0, .inr (.inr (0, 11, 1)))] [.inr (.inr (0, 1, 50)), .inr (.inr (0, 11, 1))] x) := by
  obtain ⟨c, hi, hj, hr⟩ := h
  simp only at e
  subst e
  rfl
def g_S_8 (h : MH) : MH :=
  let h0 : MH := sR h 1 8 50
  let h1 : MH := sJ h0 1 9 0
  let h2 : MH := sJ h1 1 10 1
  let h3 : MH := sN h2
  h3
set_option maxRecDepth 1000000 in
theorem st_S_8 (N : Nat) {h : MH} (e : h.1 = 53) : seg (C_S_init_1 N) 2 0 rV T_S_init [] (fun _ _ _ _ => none) 555 false 97 [(0, .inr (.inr (0, 11, 1)))] [.inr (.inr (0, 1, 50)), .inr (.inr (0, 11, 1))] h = (f_Land_init_54 (g_S_8 h)).bind (fun x => seg (C_S_init_1 N) 2 0 rV T_S_init [] (fun _ _ _ _ => none) 544 false 118 [(0, .inr (.inr (0, 11, 1)))] [.inr (.inr (0, 2, 54)), .inr (.inr (0, 11, 1))] x) := by
  obtain ⟨c, hi, hj, hr⟩ := h
  simp only at e
  subst e
  rfl
def g_S_9 (h : MH) : MH :=
  let h0 : MH := sR h 1 11 54
  let h1 : MH := sI h0 1 12 0
  let h2 : MH := sI h1 1 13 (-1)
  let h3 : MH := sI h2 1 14 (-1)
  let h4 : MH := sI h3 1 15 9
  let h5 : MH := sI h4 1 16 (-1)
  let h6 : MH := sI h5 1 17 (-1)
  let h7 : MH := sN h6
  h7
set_option maxRecDepth 1000000 in
theorem stt_S_9 (N : Nat) {h : MH} (e : h.1 = 59) : seg (C_S_init_1 N) 2 0 rV T_S_init [] (fun _ _ _ _ => none) 544 false 118 [(0, .inr (.inr (0, 11, 1)))] [.inr (.inr (0, 2, 54)), .inr (.inr (0, 11, 1))] (sR h 1 0 2) = (f_Tray_init_60 (g_S_9 (sR h 1 0 2))).bind (fun x => seg (C_S_init_1 N) 2 0 rV T_S_init [] (fun _ _ _ _ => none) 514 false 171 [(1, .inl 0), (0, .inr (.inr (0, 11, 1)))] [.inr (.inr (0, 9, 60)), .inl 0, .inr (.inr (5, 4, 2))] x) := by
  obtain ⟨c, hi, hj, hr⟩ := h
  simp only at e
  subst e
  rfl
theorem st_S_9 (N : Nat) {h : MH} (e : h.1 = 59) (t : gR h 1 0 = 2) : seg (C_S_init_1 N) 2 0 rV T_S_init [] (fun _ _ _ _ => none) 544 false 118 [(0, .inr (.inr (0, 11, 1)))] [.inr (.inr (0, 2, 54)), .inr (.inr (0, 11, 1))] h = (f_Tray_init_60 (g_S_9 h)).bind (fun x => seg (C_S_init_1 N) 2 0 rV T_S_init [] (fun _ _ _ _ => none) 514 false 171 [(1, .inl 0), (0, .inr (.inr (0, 11, 1)))] [.inr (.inr (0, 9, 60)), .inl 0, .inr (.inr (5, 4, 2))] x) := by
  have := stt_S_9 N e
  rw [sR_self t] at this
  exact this
def g_S_10 (h : MH) : MH :=
  let h0 : MH := sR h 2 0 60
  let h1 : MH := sN h0
  h1
set_option maxRecDepth 1000000 in
theorem stt_S_10 (N : Nat) {h : MH} (e : h.1 = 61) : seg (C_S_init_1 N) 2 0 rV T_S_init [] (fun _ _ _ _ => none) 514 false 171 [(1, .inl 0), (0, .inr (.inr (0, 11, 1)))] [.inr (.inr (0, 9, 60)), .inl 0, .inr (.inr (5, 4, 2))] (sR h 1 0 2) = (f_Tray_init_62 (g_S_10 (sR h 1 0 2))).bind (fun x => seg (C_S_init_1 N) 2 0 rV T_S_init [] (fun _ _ _ _ => none) 502 false 171 [(1, .inl (0 + 1)), (0, .inr (.inr (0, 11, 1)))] [.inr (.inr (0, 9, 62)), .inl (0 + 1), .inr (.inr (5, 4, 2))] x) := by
  obtain ⟨c, hi, hj, hr⟩ := h
  simp only at e
  subst e
  rfl
theorem st_S_10 (N : Nat) {h : MH} (e : h.1 = 61) (t : gR h 1 0 = 2) : seg (C_S_init_1 N) 2 0 rV T_S_init [] (fun _ _ _ _ => none) 514 false 171 [(1, .inl 0), (0, .inr (.inr (0, 11, 1)))] [.inr (.inr (0, 9, 60)), .inl 0, .inr (.inr (5, 4, 2))] h = (f_Tray_init_62 (g_S_10 h)).bind (fun x => seg (C_S_init_1 N) 2 0 rV T_S_init [] (fun _ _ _ _ => none) 502 false 171 [(1, .inl (0 + 1)), (0, .inr (.inr (0, 11, 1)))] [.inr (.inr (0, 9, 62)), .inl (0 + 1), .inr (.inr (5, 4, 2))] x) := by
  have := stt_S_10 N e
  rw [sR_self t] at this
  exact this
def g_S_11 (h : MH) : MH :=
  let h0 : MH := sR h 2 1 62
  let h1 : MH := sN h0
  h1
set_option maxRecDepth 1000000 in
theorem stt_S_11 (N : Nat) {h : MH} (e : h.1 = 63) : seg (C_S_init_1 N) 2 0 rV T_S_init [] (fun _ _ _ _ => none) 502 false 171 [(1, .inl (0 + 1)), (0, .inr (.inr (0, 11, 1)))] [.inr (.inr (0, 9, 62)), .inl (0 + 1), .inr (.inr (5, 4, 2))] (sR h 1 0 2) = (f_Tray_init_64 (g_S_11 (sR h 1 0 2))).bind (fun x => seg (C_S_init_1 N) 2 0 rV T_S_init [] (fun _ _ _ _ => none) 490 false 171 [(1, .inl (0 + 1 + 1)), (0, .inr (.inr (0, 11, 1)))] [.inr (.inr (0, 9, 64)), .inl (0 + 1 + 1), .inr (.inr (5, 4, 2))] x) := by
  obtain ⟨c, hi, hj, hr⟩ := h
  simp only at e
  subst e
  rfl
theorem st_S_11 (N : Nat) {h : MH} (e : h.1 = 63) (t : gR h 1 0 = 2) : seg (C_S_init_1 N) 2 0 rV T_S_init [] (fun _ _ _ _ => none) 502 false 171 [(1, .inl (0 + 1)), (0, .inr (.inr (0, 11, 1)))] [.inr (.inr (0, 9, 62)), .inl (0 + 1), .inr (.inr (5, 4, 2))] h = (f_Tray_init_64 (g_S_11 h)).bind (fun x => seg (C_S_init_1 N) 2 0 rV T_S_init [] (fun _ _ _ _ => none) 490 false 171 [(1, .inl (0 + 1 + 1)), (0, .inr (.inr (0, 11, 1)))] [.inr (.inr (0, 9, 64)), .inl (0 + 1 + 1), .inr (.inr (5, 4, 2))] x) := by
  have := stt_S_11 N e
  rw [sR_self t] at this
  exact this
def g_S_12 (h : MH) : MH :=
  let h0 : MH := sR h 2 2 64
  let h1 : MH := sN h0
  h1
set_option maxRecDepth 1000000 in
theorem stt_S_12 (N : Nat) {h : MH} (e : h.1 = 65) : seg (C_S_init_1 N) 2 0 rV T_S_init [] (fun _ _ _ _ => none) 490 false 171 [(1, .inl (0 + 1 + 1)), (0, .inr (.inr (0, 11, 1)))] [.inr (.inr (0, 9, 64)), .inl (0 + 1 + 1), .inr (.inr (5, 4, 2))] (sR h 1 0 2) = (f_Tray_init_66 (g_S_12 (sR h 1 0 2))).bind (fun x => seg (C_S_init_1 N) 2 0 rV T_S_init [] (fun _ _ _ _ => none) 478 false 171 [(1, .inl (0 + 1 + 1 + 1)), (0, .inr (.inr (0, 11, 1)))] [.inr (.inr (0, 9, 66)), .inl (0 + 1 + 1 + 1), .inr (.inr (5, 4, 2))] x) := by
  obtain ⟨c, hi, hj, hr⟩ := h
  simp only at e
  subst e
  rfl
theorem st_S_12 (N : Nat) {h : MH} (e : h.1 = 65) (t : gR h 1 0 = 2) : seg (C_S_init_1 N) 2 0 rV T_S_init [] (fun _ _ _ _ => none) 490 false 171 [(1, .inl (0 + 1 + 1)), (0, .inr (.inr (0, 11, 1)))] [.inr (.inr (0, 9, 64)), .inl (0 + 1 + 1), .inr (.inr (5, 4, 2))] h = (f_Tray_init_66 (g_S_12 h)).bind (fun x => seg (C_S_init_1 N) 2 0 rV T_S_init [] (fun _ _ _ _ => none) 478 false 171 [(1, .inl (0 + 1 + 1 + 1)), (0, .inr (.inr (0, 11, 1)))] [.inr (.inr (0, 9, 66)), .inl (0 + 1 + 1 + 1), .inr (.inr (5, 4, 2))] x) := by
  have := stt_S_12 N e
  rw [sR_self t] at this
  exact this
def g_S_13 (h : MH) : MH :=
  let h0 : MH := sR h 2 3 66
  h0
set_option maxRecDepth 1000000 in
theorem st_S_13 (N : Nat) {h : MH} (e : h.1 = 67) : seg (C_S_init_1 N) 2 0 rV T_S_init [] (fun _ _ _ _ => none) 478 false 171 [(1, .inl (0 + 1 + 1 + 1)), (0, .inr (.inr (0, 11, 1)))] [.inr (.inr (0, 9, 66)), .inl (0 + 1 + 1 + 1), .inr (.inr (5, 4, 2))] h = some (g_S_13 h) := by
  obtain ⟨c, hi, hj, hr⟩ := h
  simp only at e
  subst e
  rfl
/-- the class up to the walk, and behind it -/
def e_S_init_1 (h : MH) : MH :=
  let a0 : MH := g_S_0 h
  let b0 : MH := (15, (e_Reader_init_3 a0).2)
  let a1 : MH := g_S_1 b0
  let b1 : MH := (27, (e_Ledger_init_16 a1).2)
  let a2 : MH := g_S_2 b1
  let b2 : MH := (28, (e_Line_init_28 a2).2)
  let a3 : MH := g_S_3 b2
  let b3 : MH := (32, (e_Shakes_init_29 a3).2)
  let a4 : MH := g_S_4 b3
  let b4 : MH := (41, (e_Asked_init_33 a4).2)
  let a5 : MH := g_S_5 b4
  a5
def e_S_init_1_b (x : MH) : MH :=
  let a6 : MH := g_S_6 x
  let b6 : MH := (49, (e_Ranks_init_48 a6).2)
  let a7 : MH := g_S_7 b6
  let b7 : MH := (53, (e_Few_init_50 a7).2)
  let a8 : MH := g_S_8 b7
  let b8 : MH := (59, (e_Land_init_54 a8).2)
  let a9 : MH := g_S_9 b8
  let b9 : MH := (61, (e_Tray_init_60 a9).2)
  let a10 : MH := g_S_10 b9
  let b10 : MH := (63, (e_Tray_init_62 a10).2)
  let a11 : MH := g_S_11 b10
  let b11 : MH := (65, (e_Tray_init_64 a11).2)
  let a12 : MH := g_S_12 b11
  let b12 : MH := (67, (e_Tray_init_66 a12).2)
  let a13 : MH := g_S_13 b12
  a13
theorem v_S_init_1 (N : Nat) {h x : MH} (e : h.1 = 1) (hx : f_Walk_init_42 N (e_S_init_1 h) = some x) (xt : gR x 1 0 = 2) : f_S_init_1 N h = some (67, (e_S_init_1_b x).2) := by
  have x1 : x.1 = 47 := (u_Walk_init_42 hx).2.1
  obtain ⟨xc, xi, xj, xr⟩ := x
  simp only at x1
  subst x1
  unfold f_S_init_1
  rw [e]
  dsimp only
  rw [st_S_0 N e, vp_Reader_init_3 (by first | rfl | (show h.1 + 1 + 1 = 3; rw [e])), bnd_some, st_S_1 N rfl, vp_Ledger_init_16 (by first | rfl | (show h.1 + 1 + 1 = 3; rw [e])), bnd_some, st_S_2 N rfl, vp_Line_init_28 (by first | rfl | (show h.1 + 1 + 1 = 3; rw [e])), bnd_some, st_S_3 N rfl, vp_Shakes_init_29 (by first | rfl | (show h.1 + 1 + 1 = 3; rw [e])), bnd_some, st_S_4 N rfl, vp_Asked_init_33 (by first | rfl | (show h.1 + 1 + 1 = 3; rw [e])), bnd_some, st_S_5 N rfl]
  have hx' : f_Walk_init_42 N (g_S_5 (41, _)) = some (47, xi, xj, xr) := hx
  rw [hx', bnd_some, st_S_6 N rfl, vp_Ranks_init_48 rfl, bnd_some, st_S_7 N rfl, vp_Few_init_50 rfl, bnd_some, st_S_8 N rfl, vp_Land_init_54 rfl, bnd_some, st_S_9 N rfl (by exact xt), vp_Tray_init_60 rfl, bnd_some, st_S_10 N rfl (by exact xt), vp_Tray_init_62 rfl, bnd_some, st_S_11 N rfl (by exact xt), vp_Tray_init_64 rfl, bnd_some, st_S_12 N rfl (by exact xt), vp_Tray_init_66 rfl, bnd_some, st_S_13 N rfl, bnd_some]
  rfl
