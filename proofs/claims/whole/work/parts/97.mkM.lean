/-! MAKERS: the reference -/
def e_M_init_68 (h : MH) : MH :=
  let h1 : MH := sJ h 68 2 1
  let h2 : MH := sN h1
  let h3 : MH := sR h2 68 3 69
  let h4 : MH := sN h3
  let h5 : MH := sI h4 70 0 (-1)
  let h6 : MH := sI h5 70 1 (-1)
  let h7 : MH := sI h6 70 2 (-1)
  let h8 : MH := sI h7 70 3 (-1)
  let h9 : MH := sR h8 68 4 70
  let h10 : MH := sN h9
  let h11 : MH := sR h10 68 5 71
  let h12 : MH := sN h11
  let h13 : MH := sR h12 68 6 72
  let h14 : MH := sN h13
  let h15 : MH := sR h14 68 7 73
  let h16 : MH := sI h15 68 14 (-1)
  let h17 : MH := sI h16 68 15 (-1)
  let h18 : MH := sN h17
  let h19 : MH := sR h18 68 17 74
  let h20 : MH := sN h19
  let h21 : MH := sR h20 68 18 75
  let h22 : MH := sN h21
  let h23 : MH := sR h22 68 19 76
  let h24 : MH := sN h23
  let h25 : MH := sR h24 68 20 77
  let h26 : MH := sN h25
  let h27 : MH := sR h26 68 21 78
  let h28 : MH := sN h27
  let h29 : MH := sR h28 68 22 79
  let h30 : MH := sN h29
  let h31 : MH := sR h30 68 23 80
  let h32 : MH := sN h31
  let h33 : MH := sR h32 68 24 81
  let h34 : MH := sN h33
  let h35 : MH := sR h34 68 25 82
  let h36 : MH := sN h35
  let h37 : MH := sR h36 68 26 83
  let h38 : MH := sN h37
  let h39 : MH := sR h38 68 27 84
  let h40 : MH := sN h39
  let h41 : MH := sR h40 68 34 85
  let h42 : MH := sN h41
  let h43 : MH := sR h42 68 35 86
  let h44 : MH := sN h43
  let h45 : MH := sR h44 68 36 87
  let h46 : MH := sN h45
  let h47 : MH := sR h46 68 37 88
  let h48 : MH := sN h47
  let h49 : MH := sR h48 68 38 89
  let h50 : MH := sN h49
  let h51 : MH := sR h50 68 40 90
  let h52 : MH := sN h51
  let h53 : MH := sR h52 68 41 91
  let h54 : MH := sN h53
  let h55 : MH := sR h54 68 42 92
  let h56 : MH := sN h55
  let h57 : MH := sR h56 68 43 93
  let h58 : MH := sN h57
  let h59 : MH := sR h58 68 44 94
  let h60 : MH := sI h59 68 51 9999
  let h61 : MH := sN h60
  let h62 : MH := sR h61 68 52 95
  let h63 : MH := sN h62
  let h64 : MH := sR h63 68 53 96
  let h65 : MH := sN h64
  let h66 : MH := sR h65 68 54 97
  let h67 : MH := sN h66
  let h68 : MH := sR h67 68 55 98
  let h69 : MH := sN h68
  let h70 : MH := sR h69 68 56 99
  let h71 : MH := sN h70
  let h72 : MH := sR h71 68 57 100
  let h73 : MH := sN h72
  let h74 : MH := sR h73 68 58 101
  let h75 : MH := sN h74
  let h76 : MH := sR h75 68 59 102
  let h77 : MH := sI h76 68 66 9
  let h78 : MH := sN h77
  let h79 : MH := sR h78 68 68 103
  let h80 : MH := sN h79
  let h81 : MH := sR h80 68 69 104
  let h82 : MH := sN h81
  let h83 : MH := sR h82 68 70 105
  let h84 : MH := sN h83
  let h85 : MH := sR h84 68 71 106
  let h86 : MH := sN h85
  let h87 : MH := sR h86 68 72 107
  let h88 : MH := sN h87
  let h89 : MH := sR h88 68 73 108
  let h90 : MH := sN h89
  let h91 : MH := sR h90 68 74 109
  let h92 : MH := sN h91
  let h93 : MH := sR h92 68 76 110
  let h94 : MH := sN h93
  let h95 : MH := sR h94 68 77 111
  let h96 : MH := sN h95
  let h97 : MH := sR h96 68 78 112
  let h98 : MH := sI h97 68 79 (-1)
  let h99 : MH := sN h98
  let h100 : MH := sR h99 68 81 113
  let h101 : MH := sN h100
  let h102 : MH := sR h101 68 82 114
  let h103 : MH := sN h102
  let h104 : MH := sR h103 68 84 115
  h104
def C_M_init_68 : MC := (KDL.take 116, true, (fun _ => 0), jsB, (fun _ _ _ => none), (fun _ _ _ => none), (fun _ _ _ => none), (fun _ _ _ => none))
def f_M_init_68 (h : MH) : Option MH := match Nat.beq h.1 68 with
  | true => (seg (C_M_init_68) 1 0 rV T_M_init [] (fun _ _ _ _ => none) 600 true 0 [(0, .inr (.inr (0, 12, 68)))] [] h).bind (fun r => match Nat.beq r.1 115 with
    | true => some (115, r.2)
    | false => none)
  | false => none
theorem u_M_init_68 {h r : MH} (hf : f_M_init_68 h = some r) : h.1 = 68 ∧ r.1 = 115 ∧ seg (C_M_init_68) 1 0 rV T_M_init [] (fun _ _ _ _ => none) 600 true 0 [(0, .inr (.inr (0, 12, 68)))] [] h = some r := by
  unfold f_M_init_68 at hf
  split at hf
  · rename_i hb
    rcases hq : seg (C_M_init_68) 1 0 rV T_M_init [] (fun _ _ _ _ => none) 600 true 0 [(0, .inr (.inr (0, 12, 68)))] [] h with _ | x
    · rw [hq] at hf; cases hf
    · rw [hq] at hf
      dsimp only [Option.bind] at hf
      split at hf
      · rename_i hc
        have hc := Nat.eq_of_beq_eq_true hc
        cases hf
        exact ⟨Nat.eq_of_beq_eq_true hb, rfl, by rw [← hc]⟩
      · cases hf
  · cases hf
theorem s_M_init_68 {l : Launch} {E : EV} {h r : MH} (hf : f_M_init_68 h = some r) : SndM l E true 0 163 [.inr (.inr (0, 12, 68))] h none r := by
  obtain ⟨u1, u2, u3⟩ := u_M_init_68 hf
  obtain ⟨m1, m2, m3, m4, m5⟩ := mx_M_init
  refine snd_of (C := C_M_init_68) (own := 12) (rz := 0) (lim := 115) rV_eq m2 m4 pl_163 (TB_in _ cw_163 rfl) ⟨(fun _ => ⟨_, _, _, _, _, _, rfl, rfl, by rw [m4]; rfl⟩), (fun z => by rw [m3] at z; cases z)⟩ (fun _ => by omega) rfl rfl rfl (fun _ => m5) (fun _ => u2.symm) (fun z => by cases z) (by rw [m1]; exact Nat.le_of_ble_eq_true rfl)
      (fun _ _ _ _ z => by cases z) (fun _ _ _ _ z => by cases z) (fun _ _ _ _ z => by cases z)
      (fun _ _ _ _ z => by cases z)
      (fun p e R s m args below meth c Q n0 F hret => ?_)
  rw [m1] at F hret ⊢
  rw [mc_M_init] at F hret
  exact seg_s F hret (chkT_ok chk_M_init) (fun _ _ _ _ z => by cases z) 600 true 0 _ _ _ u3
set_option maxRecDepth 1000000 in
theorem v_M_init_68 (hi : Nat → Nat → Int32) (hj : Nat → Nat → Int64) (hr : Nat → Nat → Nat) : f_M_init_68 (68, hi, hj, hr) = some (115, (e_M_init_68 (68, hi, hj, hr)).2) := (rfl)
