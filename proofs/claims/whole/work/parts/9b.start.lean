/-! MAKERS: what stands when both objects are made -/
theorem frC_I {W : Nat → Nat → Bool} {h h' : MH} (a : Fr W h h') (c k : Nat) (v : Int32) : Fr W (sI h c k v) (sI h' c k v) := ⟨a.1, fun c' k' w => ⟨by
  rw [gI_sI, gI_sI, a.i c' k' w], a.j c' k' w, a.r c' k' w⟩⟩
theorem frC_J {W : Nat → Nat → Bool} {h h' : MH} (a : Fr W h h') (c k : Nat) (v : Int64) : Fr W (sJ h c k v) (sJ h' c k v) := ⟨a.1, fun c' k' w => ⟨a.i c' k' w, by
  rw [gJ_sJ, gJ_sJ, a.j c' k' w], a.r c' k' w⟩⟩
theorem frC_R {W : Nat → Nat → Bool} {h h' : MH} (a : Fr W h h') (c k : Nat) (v : Nat) : Fr W (sR h c k v) (sR h' c k v) := ⟨a.1, fun c' k' w => ⟨a.i c' k' w, a.j c' k' w, by
  rw [gR_sR, gR_sR, a.r c' k' w]⟩⟩
theorem frC_N {W : Nat → Nat → Bool} {h h' : MH} (a : Fr W h h') : Fr W (sN h) (sN h') := by
  refine ⟨?_, fun c k w => ⟨?_, ?_, ?_⟩⟩
  · show h'.1 + 1 = h.1 + 1
    rw [a.1]
  · show (if c = h'.1 + 1 then (0 : Int32) else gI h' c k) = (if c = h.1 + 1 then (0 : Int32) else gI h c k)
    rw [a.1, a.i c k w]
  · show (if c = h'.1 + 1 then (0 : Int64) else gJ h' c k) = (if c = h.1 + 1 then (0 : Int64) else gJ h c k)
    rw [a.1, a.j c k w]
  · show (if c = h'.1 + 1 then 0 else gR h' c k) = (if c = h.1 + 1 then 0 else gR h c k)
    rw [a.1, a.r c k w]
theorem frC_P {W : Nat → Nat → Bool} {h h' : MH} (a : Fr W h h') (n : Nat) : Fr W (n, h.2) (n, h'.2) := ⟨rfl, fun c k w => a.2 c k w⟩
def Z0 : MH := (0, fun _ _ => 0, fun _ _ => 0, fun _ _ => 0)
def X0 : MH := e0W (42, (e_S_init_1 (sN Z0)).2)
def HB (x : MH) : MH := (67, (e_S_init_1_b x).2)
def HD (x : MH) : MH := (115, (e_M_init_68 (sN (HB x))).2)
theorem HD_fr {x : MH} (f : Fr w46 X0 x) : Fr w46 (HD X0) (HD x) := by
  unfold HD HB
  refine frC_P ?_ 115
  unfold e_M_init_68
  dsimp only
  repeat first | refine frC_I ?_ _ _ _ | refine frC_J ?_ _ _ _ | refine frC_R ?_ _ _ _ | refine frC_N ?_
  refine frC_P ?_ 67
  unfold e_S_init_1_b g_S_6 g_S_7 g_S_8 g_S_9 g_S_10 g_S_11 g_S_12 g_S_13 e_Ranks_init_48 e_Few_init_50 e_Land_init_54 e_Tray_init_60 e_Tray_init_62 e_Tray_init_64 e_Tray_init_66
  dsimp only
  repeat first | exact f | refine frC_I ?_ _ _ _ | refine frC_J ?_ _ _ _ | refine frC_R ?_ _ _ _ | refine frC_N ?_ | refine frC_P ?_ _
