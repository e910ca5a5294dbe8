/-! TRAYS, OFFSETS, SHAKES, THE TAPE -/
theorem eTray_lay {N : Nat} (hN : 60 < N) (r : Nat) (a b : Int32) (h : MH) : ∃ h', f_Tray_lay N r a b h = some h' ∧ (∀ c k, gJ h' c k = if c = r + 1 ∧ k < 60 then 0 else gJ h c k) ∧ (∀ c k, gI h' c k = gI (sI (sI h r 1 a) r 2 b) c k) ∧ (∀ c k, gR h' c k = gR h c k) ∧ h'.1 = h.1 := by
  unfold f_Tray_lay
  obtain ⟨h', e1, e2, e3, e4, e5⟩ := fFillJ 60 (r + 1) 0 (sI (sI h r 1 a) r 2 b) (by omega) hN
  refine ⟨h', ?_, e2, e3, e4, e5⟩
  simp only [e1, bnd_some]
theorem lM_tray {N : Nat} (t z : Nat) (ht : t < 4) (hz : z ≤ 60) : ∀ (n k : Nat) (h : MH), k ≤ z → z - k < n → ∃ h', L_M_tray N n (nI t) (nI z) (nI k) h = some (1, sI h' 68 0 0) ∧ (∀ c j, gJ h' c j = if c = 71 ∧ 60 * t + k ≤ j ∧ j < 60 * t + z then 0 else gJ h c j) ∧ (∀ c j, gI h' c j = gI h c j) ∧ (∀ c j, gR h' c j = gR h c j) ∧ h'.1 = h.1 := by
  intro n
  induction n with
  | zero => intro k h _ h2; omega
  | succ n ih =>
    intro k h h1 h2
    show ∃ h', F_M_tray_49 N (L_M_tray N n) (nI t) (nI z) (nI k) h = some (1, sI h' 68 0 0) ∧ _
    unfold F_M_tray_49
    simp (disch := omega) only [nN_le, inB_nI, iN_nI, L60, L1, nN_add, nN_mul, eM_is, bnd_some]
    by_cases g : z ≤ k
    · rw [if_pos g]
      refine ⟨h, rfl, fun a b => ?_, fun _ _ => rfl, fun _ _ => rfl, rfl⟩
      rw [if_neg (by omega)]
    · rw [if_neg g, if_pos (by omega)]
      obtain ⟨h', e1, e2, e3, e4, e5⟩ := ih (k + 1) (sJ h 71 (60 * t + k) 0) (by omega) (by omega)
      refine ⟨h', e1, fun a b => ?_, e3, e4, e5⟩
      rw [e2, gJ_sJ]
      by_cases ga : a = 71
      · by_cases gb : b = 60 * t + k
        · rw [if_neg (by omega), if_pos ⟨ga, gb⟩, if_pos (by omega)]
        · rw [if_neg (c := a = 71 ∧ b = 60 * t + k) (by omega)]
          by_cases gc : 60 * t + k ≤ b ∧ b < 60 * t + z
          · rw [if_pos (by omega), if_pos (by omega)]
          · rw [if_neg (by omega), if_neg (by omega)]
      · simp [ga]
theorem op_tray {N : Nat} (hN : 100 < N) {hS hM : MH} (h : Inv2 hS hM) (a1 a2 a3 : Int32) : OK2 hS hM (f_S_tray N a1 a2 a3 hS) (f_M_tray N a1 a2 a3 hM) := by
  unfold f_S_tray f_M_tray F_M_tray_0 f_S_deny f_S_allow
  simp only [eS_isTray, eM_isTray, eM_is, bnd_some, bz, iteV, iteR, iteW]
  by_cases g1 : 0 ≤ a1 ∧ a1 < 4
  · by_cases g2 : 0 ≤ a2 ∧ a2 < 4
    · have g2' : 0 ≤ a2 ∧ a2 ≤ 3 := by grind
      by_cases g3 : 0 ≤ a3 ∧ a3 ≤ 60
      · obtain ⟨t, ht, rfl⟩ := rng (n := 4) (by omega) g1
        obtain ⟨s, hs, rfl⟩ := rng (n := 4) (by omega) g2
        obtain ⟨z, hz, rfl⟩ := rngle (n := 60) (by omega) g3
        simp only [g1, g2, g2', g3, not_true, and_self, if_false, if_true]
        simp (disch := omega) only [inB_nI, iN_nI, ht, if_true]
        obtain ⟨T1, T2, T3, T4⟩ := Inv_T h ht
        rw [T1]
        obtain ⟨h', e1, e2, e3, e4, e5⟩ := eTray_lay (N := N) (by omega) (60 + 2 * t) (nI s) (nI z) hS
        rw [e1]
        obtain ⟨k', m1, m2, m3, m4, m5⟩ := lM_tray (N := N) t z ht hz (N + 1) 0 (sI (sI hM 69 t (nI s)) 70 t (nI z)) (by omega) (by omega)
        refine ⟨1, sI h' 1 12 0, sI k' 68 0 0, rfl, m1, ?_, ?_, ?_⟩
        · refine Inv_st (Inv_tray h ht ⟨e5, fun c k w => ?_⟩ ⟨m5, fun c k w => ?_⟩ ?_) 0
          · simp only [wTS, Bool.or_eq_false_iff, beq_eq_false_iff_ne] at w
            refine ⟨?_, ?_, e4 c k⟩
            · rw [e3, gI_sI, gI_sI, if_neg (by omega), if_neg (by omega)]
            · rw [e2, if_neg (by omega)]
          · simp [wTM] at w
            refine ⟨?_, ?_, ?_⟩
            · rw [m3, gI_sI, gI_sI, if_neg (by omega), if_neg (by omega)]
            · rw [m2, if_neg (by omega)]; rfl
            · rw [m4]; rfl
          · refine ⟨by rw [e4]; exact T1, ⟨s, hs, ?_, ?_⟩, ?_, .inr ⟨z, hz, ?_, fun k hk => ?_⟩⟩
            · rw [e3, gI_sI, gI_sI]; simp
            · rw [m3, gI_sI, gI_sI]; simp
            · rw [e3, m3, gI_sI, gI_sI, gI_sI, gI_sI]; simp
            · rw [m3, gI_sI, gI_sI]; simp
            · rw [e2, m2, if_pos (by omega), if_pos (by omega)]
        · refine (Fr.mono (W := wTS t) ⟨e5, fun c k w => ?_⟩ (fun _ _ => wTS_le ht)).sI 1 12 0 rfl
          simp only [wTS, Bool.or_eq_false_iff, beq_eq_false_iff_ne] at w
          refine ⟨?_, ?_, e4 c k⟩
          · rw [e3, gI_sI, gI_sI, if_neg (by omega), if_neg (by omega)]
          · rw [e2, if_neg (by omega)]
        · refine (Fr.mono (h := hM) (W := wTM t) ⟨m5, fun c k w => ?_⟩ (fun _ _ => wTM_le)).sI 68 0 0 rfl
          simp [wTM] at w
          refine ⟨?_, ?_, ?_⟩
          · rw [m3, gI_sI, gI_sI, if_neg (by omega), if_neg (by omega)]
          · rw [m2, if_neg (by omega)]; rfl
          · rw [m4]; rfl
      · simp only [g1, g2, g2', g3, not_true, not_false_eq_true, and_self, if_false, if_true]
        exact OK2_st h Fr.rfl Fr.rfl _ _
    · have g2' : ¬ (0 ≤ a2 ∧ a2 ≤ 3) := by grind
      simp only [g1, g2, g2', not_true, not_false_eq_true, and_self, if_false, if_true]
      exact OK2_st h Fr.rfl Fr.rfl _ _
  · simp only [g1, not_true, not_false_eq_true, and_self, if_false, if_true]
    exact OK2_st h Fr.rfl Fr.rfl _ _
/-- how a place is refused, on both sides alike -/
def rPl (hM : MH) (a b : Int32) : Int32 := if 0 ≤ a ∧ a < 4 then (if gI hM 70 (iN a) = -1 then 2 else if 0 ≤ b ∧ b < gI hM 70 (iN a) then 0 else 3) else 1
theorem eM_wrongPlace (N : Nat) (a b : Int32) (h : MH) : f_M_wrongPlace N a b h = some (rPl h a b, h) := by
  unfold f_M_wrongPlace rPl
  simp only [eM_isTray, bnd_some, bz]
  by_cases g1 : 0 ≤ a ∧ a < 4
  · obtain ⟨t, ht, rfl⟩ := rng (n := 4) (by omega) g1
    simp (disch := omega) only [g1, and_self, not_true, if_false, if_true, inB_nI, iN_nI, ht]
    by_cases g2 : gI h 70 t = -1
    · simp only [g2, if_true]
    · simp only [g2, if_false]
      by_cases g3 : b < 0
      · rw [if_pos g3, if_neg (by grind)]
      · rw [if_neg g3]
        by_cases g4 : b < gI h 70 t
        · rw [if_pos g4, if_pos (by grind)]
        · rw [if_neg g4, if_neg (by grind)]
  · simp only [g1, not_false_eq_true, if_true, if_false]
theorem eTray_isMissing {N t : Nat} {hS hM : MH} (T : IvT hS hM t) : f_Tray_isMissing N (60 + 2 * t) hS = some (if gI hM 70 t = -1 then 1 else 0, hS) := by
  obtain ⟨T1, T2, T3, T4⟩ := T
  unfold f_Tray_isMissing
  rw [T3]
  rcases T4 with q | ⟨z, z1, z2, z3⟩
  · rw [q]; rfl
  · rw [z2]
    have : (0 : Int32) ≤ nI z := by rw [L0, nN_le (by omega) (by omega)]; omega
    rw [if_pos this, if_neg]
    intro q; rw [q] at this; revert this; decide
theorem eS_refusalOfPlace {N : Nat} {hS hM : MH} (h : Inv2 hS hM) (a b : Int32) : f_S_refusalOfPlace N a b hS = some (rPl hM a b, hS) := by
  unfold f_S_refusalOfPlace rPl
  simp only [eS_isTray, eS_isOneOf, bnd_some, bz]
  by_cases g1 : 0 ≤ a ∧ a < 4
  · obtain ⟨t, ht, rfl⟩ := rng (n := 4) (by omega) g1
    have T := Inv_T h ht
    simp (disch := omega) only [g1, and_self, not_true, if_false, if_true, inB_nI, iN_nI, ht]
    rw [T.1, eTray_isMissing T]
    simp only [bnd_some, bz]
    rw [T.1, T.2.2.1]
    by_cases g2 : gI hM 70 t = -1
    · simp only [g2, not_true, if_true, if_false]
    · simp only [g2, not_false_eq_true, if_true, if_false]
      by_cases g3 : 0 ≤ b ∧ b < gI hM 70 t
      · simp only [g3, and_self, not_true, if_true, if_false]
      · simp only [g3, not_false_eq_true, if_true, if_false]
  · simp only [g1, not_false_eq_true, if_true, if_false]
/-- where rPl finds no fault -/
theorem rPl_ok {hS hM : MH} (h : Inv2 hS hM) {a b : Int32} (r : rPl hM a b = 0) : ∃ t z k, t < 4 ∧ a = nI t ∧ z ≤ 60 ∧ gI hM 70 t = nI z ∧ k < z ∧ b = nI k ∧ ∀ k, k < z → gJ hS (60 + 2 * t + 1) k = gJ hM 71 (60 * t + k) := by
  unfold rPl at r
  by_cases g1 : 0 ≤ a ∧ a < 4
  · obtain ⟨t, ht, rfl⟩ := rng (n := 4) (by omega) g1
    rw [if_pos g1, iN_nI (by omega)] at r
    obtain ⟨T1, T2, T3, T4⟩ := Inv_T h ht
    rcases T4 with q | ⟨z, z1, z2, z3⟩
    · rw [if_pos q] at r; exact absurd r (by decide)
    · by_cases g2 : gI hM 70 t = -1
      · rw [if_pos g2] at r; exact absurd r (by decide)
      · rw [if_neg g2] at r
        by_cases g3 : 0 ≤ b ∧ b < gI hM 70 t
        · rw [z2] at g3
          obtain ⟨k, hk, rfl⟩ := rng (by omega) g3
          exact ⟨t, z, k, ht, rfl, z1, z2, hk, rfl, z3⟩
        · rw [if_neg g3] at r; exact absurd r (by decide)
  · rw [if_neg g1] at r; exact absurd r (by decide)
theorem rPl_3 (hM : MH) (a b : Int32) : rPl hM a b = 0 ∨ 0 < rPl hM a b := by
  unfold rPl
  split
  · split
    · exact .inr (by decide)
    · split
      · exact .inl rfl
      · exact .inr (by decide)
  · exact .inr (by decide)
theorem lt0 {k : Nat} {n : Nat} (hk : k < n) (hn : n < 2147483648) : 0 ≤ nI k ∧ nI k < nI n := by
  rw [L0, nN_le (by omega) (by omega), nN_lt (by omega) (by omega)]; omega
theorem eTray_at {N r k : Nat} {h : MH} (hk : k < 60) : f_Tray_at N r (nI k) h = some (gJ h (r + 1) k, h) := by
  unfold f_Tray_at
  simp only [eS_isOneOf, bnd_some, bz]
  rw [if_neg (by rw [L60]; simp [lt0 hk (by omega)]), if_pos (by rw [inB_nI (by omega)]; exact hk), iN_nI (by omega)]
theorem op_read {N : Nat} {hS hM : MH} (h : Inv2 hS hM) (a b : Int32) : OK2 hS hM (f_S_read N a b hS) (f_M_read N a b hM) := by
  unfold f_S_read f_M_read f_S_refuse
  rw [eS_refusalOfPlace h, eM_wrongPlace]
  simp only [bnd_some]
  have s0 : ∀ v, gI (sI hM 68 0 v) 68 0 = v := fun v => rfl
  rw [s0]
  rcases rPl_3 hM a b with r | r
  · obtain ⟨t, z, k, ht, rfl, hz, e1, hk, rfl, e2⟩ := rPl_ok h r
    rw [if_pos r, r, if_pos (show (0 : Int32) ≤ 0 by decide)]
    obtain ⟨T1, -⟩ := Inv_T h ht
    simp (disch := omega) only [inB_nI, iN_nI, ht, if_true, L60, nN_add, nN_mul]
    rw [show gR (sI hS 1 12 0) 2 t = gR hS 2 t from rfl, T1, eTray_at (by omega)]
    simp only [bnd_some]
    rw [if_pos (by omega)]
    rw [gJ_sI, gJ_sI, e2 k hk]
    exact OK2_st h Fr.rfl Fr.rfl _ _
  · rw [if_neg (by grind), if_neg (by grind)]
    exact OK2_st h Fr.rfl Fr.rfl _ _
def cutJ (v : Int64) (s : Nat) : Int64 := if s = 0 then v.toInt32.toInt8.toInt32.toInt64 else if s = 1 then v.toInt32.toInt16.toInt32.toInt64 else if s = 2 then v.toInt32.toInt64 else v
theorem op_write {N : Nat} {hS hM : MH} (h : Inv2 hS hM) (a b : Int32) (v : Int64) : OK2 hS hM (f_S_write N a b v hS) (f_M_write N a b v hM) := by
  unfold f_S_write f_M_write f_S_deny f_S_allow
  rw [eS_refusalOfPlace h, eM_wrongPlace]
  simp only [bnd_some]
  rcases rPl_3 hM a b with r | r
  · obtain ⟨t, z, k, ht, rfl, hz, e1, hk, rfl, e2⟩ := rPl_ok h r
    rw [if_pos r, r, if_pos rfl]
    obtain ⟨T1, ⟨s, s1, s2, s3⟩, T3, T4⟩ := Inv_T h ht
    have cS : f_Tray_put N (60 + 2 * t) (nI k) v hS = some (sJ hS (60 + 2 * t + 1) k (cutJ v s)) := by
      unfold f_Tray_put cutJ
      simp only [eS_isOneOf, bnd_some, bz]
      rw [if_neg (by rw [L60]; simp [lt0 (show k < 60 by omega) (by omega)])]
      simp (disch := omega) only [inB_nI, iN_nI, L0, L1, L2, nN_inj, s2]
      have k60 : k < 60 := by omega
      simp only [k60, if_true]
      split
      · rfl
      · split
        · rfl
        · split <;> rfl
    have cM : f_M_cut N v (nI s) hM = some (cutJ v s, hM) := by
      unfold f_M_cut cutJ
      simp (disch := omega) only [L0, L1, L2, nN_inj]
      split
      · rfl
      · split
        · rfl
        · split <;> rfl
    simp (disch := omega) only [inB_nI, iN_nI, ht, if_true, L60, nN_add, nN_mul]
    rw [T1, cS, s3, cM]
    simp only [bnd_some, eM_is]
    rw [if_pos (by omega)]
    refine ⟨1, _, _, rfl, rfl, Inv_st (Inv_tray h ht (Fr.rfl.sJ _ _ _ (by simp [wTS])) (Fr.rfl.sJ _ _ _ (by simp [wTM]; omega)) ?_) 0, (Fr.rfl.sJ _ _ _ (by simp [wS]; omega)).sI 1 12 0 rfl, (Fr.rfl.sJ _ _ _ rfl).sI 68 0 0 rfl⟩
    refine ⟨T1, ⟨s, s1, s2, s3⟩, T3, .inr ⟨z, hz, e1, fun j hj => ?_⟩⟩
    rw [gJ_sJ, gJ_sJ]
    by_cases q : j = k
    · simp [q]
    · simp [q]; exact e2 j hj
  · rw [if_neg (by grind), if_neg (by grind), eM_is, bnd_some, if_neg (show ¬ rPl hM a b = 0 by grind)]
    exact OK2_st h Fr.rfl Fr.rfl _ _
