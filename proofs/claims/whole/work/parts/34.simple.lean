/-! SIMPLE CALLS -/
theorem iteR {T : Type} (a b lo : Int32) (X Y : T) : (if a < lo then X else if b ≤ a then X else Y) = if lo ≤ a ∧ a < b then Y else X := by
  by_cases h1 : a < lo
  · rw [if_pos h1, if_neg (by grind)]
  · rw [if_neg h1]
    by_cases h2 : b ≤ a
    · rw [if_pos h2, if_neg (by grind)]
    · rw [if_neg h2, if_pos (by grind)]
theorem iteW {T : Type} (a b lo : Int32) (X Y : T) : (if a < lo then X else if b < a then X else Y) = if lo ≤ a ∧ a ≤ b then Y else X := by
  by_cases h1 : a < lo
  · rw [if_pos h1, if_neg (by grind)]
  · rw [if_neg h1]
    by_cases h2 : b < a
    · rw [if_pos h2, if_neg (by grind)]
    · rw [if_neg h2, if_pos (by grind)]
theorem iteV {T : Type} (a b lo : Int32) (X Y : T) : (if a < lo then X else if a ≤ b then Y else X) = if lo ≤ a ∧ a ≤ b then Y else X := by
  by_cases h1 : a < lo
  · rw [if_pos h1, if_neg (by grind)]
  · rw [if_neg h1]
    by_cases h2 : a ≤ b
    · rw [if_pos h2, if_pos (by grind)]
    · rw [if_neg h2, if_neg (by grind)]
theorem some_ite {c : Prop} [Decidable c] {T U : Type} (x y : T) (h : U) : (if c then some (x, h) else some (y, h)) = some (if c then x else y, h) := by split <;> rfl
theorem bnd_some {T U : Type} (x : T) (f : T → Option U) : (some x).bind f = f x := rfl
theorem eS_isOneOf (N : Nat) (a b : Int32) (h : MH) : f_S_isOneOf N a b h = some (if 0 ≤ a ∧ a < b then 1 else 0, h) := by
  unfold f_S_isOneOf; rw [iteR, some_ite]
theorem eS_isWithin (N : Nat) (a lo hi : Int32) (h : MH) : f_S_isWithin N a lo hi h = some (if lo ≤ a ∧ a ≤ hi then 1 else 0, h) := by
  unfold f_S_isWithin; rw [iteW, some_ite]
theorem eS_isTray (N : Nat) (a : Int32) (h : MH) : f_S_isTray N a h = some (if 0 ≤ a ∧ a < 4 then 1 else 0, h) := by
  unfold f_S_isTray; rw [eS_isOneOf, bnd_some, nar_bz]
theorem eS_isYear (N : Nat) (a : Int32) (h : MH) : f_S_isYear N a h = some (if 0 ≤ a ∧ a < 20 then 1 else 0, h) := by
  unfold f_S_isYear; rw [eS_isOneOf, bnd_some, nar_bz]
theorem eS_isDay (N : Nat) (a : Int32) (h : MH) : f_S_isDay N a h = some (if 0 ≤ a ∧ a ≤ 9999 then 1 else 0, h) := by
  unfold f_S_isDay; rw [eS_isWithin, bnd_some, nar_bz]
theorem eS_isCell (N : Nat) (a : Int32) (h : MH) : f_S_isCell N a h = some (if 0 ≤ a ∧ a < gI h (gR h 1 11) 0 then 1 else 0, h) := by
  unfold f_S_isCell; rw [eS_isOneOf, bnd_some, nar_bz]
theorem eS_isMark (N : Nat) (a : Int32) (h : MH) : f_S_isMark N a h = some (if 0 ≤ a ∧ a < gI h (gR h 1 11) 1 then 1 else 0, h) := by
  unfold f_S_isMark; rw [eS_isOneOf, bnd_some, nar_bz]
theorem eM_isTray (N : Nat) (a : Int32) (h : MH) : f_M_isTray N a h = some (if 0 ≤ a ∧ a < 4 then 1 else 0, h) := by
  unfold f_M_isTray; rw [iteR, some_ite]
theorem eM_isYear (N : Nat) (a : Int32) (h : MH) : f_M_isYear N a h = some (if 0 ≤ a ∧ a < 20 then 1 else 0, h) := by
  unfold f_M_isYear; rw [iteR, some_ite]
theorem eM_isDay (N : Nat) (a : Int32) (h : MH) : f_M_isDay N a h = some (if 0 ≤ a ∧ a ≤ 9999 then 1 else 0, h) := by
  unfold f_M_isDay; rw [iteW, some_ite]
theorem eM_isPlace (N : Nat) (a : Int32) (h : MH) : f_M_isPlace N a h = some (if -2000 ≤ a ∧ a ≤ 2000 then 1 else 0, h) := by
  unfold f_M_isPlace; rw [iteW, some_ite]
theorem eM_isCell (N : Nat) (a : Int32) (h : MH) : f_M_isCell N a h = some (if 0 ≤ a ∧ a < gI h 68 32 then 1 else 0, h) := by
  unfold f_M_isCell; rw [iteR, some_ite]
theorem eM_isMark (N : Nat) (a : Int32) (h : MH) : f_M_isMark N a h = some (if 0 ≤ a ∧ a < gI h 68 33 then 1 else 0, h) := by
  unfold f_M_isMark; rw [iteR, some_ite]
theorem eM_is (N : Nat) (v : Int32) (h : MH) : f_M_is N v h = some (if v = 0 then 1 else 0, sI h 68 0 v) := by
  unfold f_M_is; rw [some_ite]
theorem eS_areYears (N : Nat) (a b : Int32) (h : MH) : f_S_areYears N a b h = some (if (0 ≤ a ∧ a < 20) ∧ (0 ≤ b ∧ b < 20) ∧ a < b then 1 else 0, h) := by
  unfold f_S_areYears
  simp only [eS_isYear, bnd_some, bz]
  by_cases h1 : 0 ≤ a ∧ a < 20
  · by_cases h2 : 0 ≤ b ∧ b < 20
    · by_cases h3 : a < b
      · simp [h1, h2, h3, Int32.not_le.mpr h3]
      · simp [h1, h2, h3, Int32.not_lt.mp h3]
    · simp [h1, h2]
  · simp [h1]
theorem eM_areYears (N : Nat) (a b : Int32) (h : MH) : f_M_areYears N a b h = some (if (0 ≤ a ∧ a < 20) ∧ (0 ≤ b ∧ b < 20) ∧ a < b then 1 else 0, h) := by
  unfold f_M_areYears
  simp only [eM_isYear, bnd_some, bz]
  by_cases h1 : 0 ≤ a ∧ a < 20
  · by_cases h2 : 0 ≤ b ∧ b < 20
    · by_cases h3 : a < b
      · simp [h1, h2, h3, Int32.not_le.mpr h3]
      · simp [h1, h2, h3, Int32.not_lt.mp h3]
    · simp [h1, h2]
  · simp [h1]
theorem op_status {N : Nat} {hS hM : MH} (h : Inv2 hS hM) : OK2 hS hM (f_S_status N hS) (f_M_status N hM) := by
  unfold f_S_status f_M_status
  rw [h.1.1]
  exact OK2_id h _
theorem op_top {N : Nat} {hS hM : MH} (h : Inv2 hS hM) : OK2 hS hM (f_S_top N hS) (f_M_top N hM) := by
  unfold f_S_top f_M_top
  rw [h.1.2.1]
  exact OK2_id h _
theorem op_bottom {N : Nat} {hS hM : MH} (h : Inv2 hS hM) : OK2 hS hM (f_S_bottom N hS) (f_M_bottom N hM) := by
  unfold f_S_bottom f_M_bottom
  rw [h.1.2.2.1]
  exact OK2_id h _
theorem op_fault {N : Nat} {hS hM : MH} (h : Inv2 hS hM) (a : Int32) : OK2 hS hM (f_S_fault N a hS) (f_M_fault N a hM) := by
  unfold f_S_fault f_M_fault
  rw [h.1.2.2.2.1, h.1.2.2.2.2.1]
  split
  · exact OK2_id h _
  · split
    · exact OK2_id h _
    · exact OK2_id h _
/-- the land's numbers of cells and of marks, on both sides -/
theorem Inv_nm {hS hM : MH} (h : Inv2 hS hM) : ∃ G n m, IvE hS hM G n m ∧ n ≤ 6 ∧ m ≤ 8 ∧ gR hS 1 11 = G ∧ gI hS G 0 = nI n ∧ gI hS G 1 = nI m ∧ gI hM 68 32 = nI n ∧ gI hM 68 33 = nI m := by
  obtain ⟨_, ⟨G, n, m, hE⟩, _⟩ := h
  have hE' := hE
  obtain ⟨hG, hr, hL, _⟩ := hE'
  exact ⟨G, n, m, hE, hL.1.1, hL.1.2, hr, hL.2.1.1, hL.2.2.1.1, hL.2.1.2, hL.2.2.1.2⟩
theorem op_many {N : Nat} {hS hM : MH} (h : Inv2 hS hM) (a : Int32) : OK2 hS hM (f_S_many N a hS) (f_M_many N a hM) := by
  obtain ⟨G, n, m, hE, hn, hm, eG, e1, e2, e3, e4⟩ := Inv_nm h
  unfold f_S_many f_M_many f_S_refuse f_S_answer f_M_refuse f_M_gives
  simp only [eS_isOneOf, bnd_some, bz, eG, e1, e2, e3, e4, iteV]
  by_cases g : 0 ≤ a ∧ a < 2
  · rw [if_neg (by simp [g]), if_pos (show 0 ≤ a ∧ a ≤ 1 by grind)]
    split
    · exact OK2_st h Fr.rfl Fr.rfl _ _
    · exact OK2_st h Fr.rfl Fr.rfl _ _
  · rw [if_pos g, if_neg (show ¬ (0 ≤ a ∧ a ≤ 1) by grind)]
    exact OK2_st h Fr.rfl Fr.rfl _ _
/-- a number in a range is a Nat below -/
theorem rng {a : Int32} {n : Nat} (hn : n < 2147483648) (h : 0 ≤ a ∧ a < nI n) : ∃ k, k < n ∧ a = nI k := by
  obtain ⟨k, hk, rfl⟩ := nI_ex h.1
  exact ⟨k, by have := h.2; rwa [nN_lt hk hn] at this, rfl⟩
theorem rngle {a : Int32} {n : Nat} (hn : n < 2147483648) (h : 0 ≤ a ∧ a ≤ nI n) : ∃ k, k ≤ n ∧ a = nI k := by
  obtain ⟨k, hk, rfl⟩ := nI_ex h.1
  exact ⟨k, by have := h.2; rwa [nN_le hk hn] at this, rfl⟩
theorem eLand_unit {N G c m : Nat} {h : MH} (hc : c < 6) (hm : m < 8) : f_Land_unit N G (nI c) (nI m) h = some (gI h (G + 1) (8 * c + m), h) := by
  unfold f_Land_unit
  simp only [L8, nN_mul, nN_add]
  rw [if_pos (by rw [inB_nI (by omega)]; omega), iN_nI (by omega), Nat.mul_comm]
theorem op_moves {N : Nat} {hS hM : MH} (h : Inv2 hS hM) (a b : Int32) : OK2 hS hM (f_S_moves N a b hS) (f_M_moves N a b hM) := by
  obtain ⟨G, n, m, hE, hn, hm, eG, e1, e2, e3, e4⟩ := Inv_nm h
  unfold f_S_moves f_M_moves f_S_refuse f_S_answer f_M_refuse f_M_gives
  simp only [eS_isCell, eS_isMark, eM_isCell, eM_isMark, bnd_some, bz, eG, e1, e2, e3, e4]
  by_cases g1 : 0 ≤ a ∧ a < nI n
  · by_cases g2 : 0 ≤ b ∧ b < nI m
    · obtain ⟨c, hc, rfl⟩ := rng (by omega) g1
      obtain ⟨k, hk, rfl⟩ := rng (by omega) g2
      rw [eLand_unit (by omega) (by omega)]
      simp only [L8, nN_mul, nN_add]
      rw [if_neg (by simp [g1]), if_neg (by simp [g2]), if_neg (by simp [g1]), if_neg (by simp [g2]), if_pos (by rw [inB_nI (by omega)]; omega), iN_nI (by omega)]
      simp only [bnd_some]
      rw [(hE.2.2.1.2.2.2.1 (8 * c + k) (by omega)).1]
      exact OK2_st h Fr.rfl Fr.rfl _ _
    · simp only [g1, g2, not_true, not_false_eq_true, if_true, if_false]
      exact OK2_st h Fr.rfl Fr.rfl _ _
  · simp only [g1, not_false_eq_true, if_true]
    exact OK2_st h Fr.rfl Fr.rfl _ _
theorem op_netTold {N : Nat} {hS hM : MH} (h : Inv2 hS hM) (a : Int32) : OK2 hS hM (f_S_netTold N a hS) (f_M_netTold N a hM) := by
  obtain ⟨i1, i2, i3⟩ := h.1.2.2.2.2.2.2.1
  unfold f_S_netTold f_M_netTold f_S_refuse f_S_answer f_M_refuse f_M_gives
  simp only [eS_isOneOf, bnd_some, bz, iteV, i1]
  by_cases g : 0 ≤ a ∧ a < 2
  · rw [if_neg (by simp [g]), if_pos (show 0 ≤ a ∧ a ≤ 1 by grind)]
    rcases i2 with q | q
    · rw [q, if_neg (by decide), if_pos rfl]
      exact OK2_st h Fr.rfl Fr.rfl _ _
    · rw [if_pos q, if_neg (show ¬ gI hM 68 79 = -1 by grind), i3 q]
      split
      · exact OK2_st h Fr.rfl Fr.rfl _ _
      · exact OK2_st h Fr.rfl Fr.rfl _ _
  · rw [if_pos g, if_neg (show ¬ (0 ≤ a ∧ a ≤ 1) by grind)]
    exact OK2_st h Fr.rfl Fr.rfl _ _
theorem op_fewOf {N : Nat} {hS hM : MH} (h : Inv2 hS hM) (a : Int32) : OK2 hS hM (f_S_fewOf N a hS) (f_M_fewOf N a hM) := by
  obtain ⟨f, f1, f2, f3, f4⟩ := h.2.2.2.2.1
  unfold f_S_fewOf f_M_fewOf f_S_refuse f_S_answer f_M_refuse f_M_gives
  simp only [bnd_some, f2, f3]
  by_cases g : 0 ≤ a
  · obtain ⟨k, hk, rfl⟩ := nI_ex g
    rw [if_pos g, if_pos g]
    simp (disch := omega) only [L8, nN_le, nN_lt, inB_nI, iN_nI]
    by_cases g2 : k < f
    · rw [if_neg (by omega), if_pos (by omega), if_pos (by omega), if_pos g2, if_pos (by omega), f4 k g2]
      exact OK2_st h Fr.rfl Fr.rfl _ _
    · rw [if_pos (by omega), if_neg g2]
      exact OK2_st h Fr.rfl Fr.rfl _ _
  · rw [if_neg g, if_neg g]
    exact OK2_st h Fr.rfl Fr.rfl _ _
theorem Inv_asof {hS hM : MH} (h : Inv2 hS hM) (v : Int32) : Inv2 (sI hS 16 11 v) (sI hM 68 51 v) := by
  obtain ⟨⟨a1, a2, a3, a4, a5, a6, a7, a8, a9⟩, ⟨G, n, m, ⟨hG, hr, hL, hR, hK⟩⟩, hT, hP, hF, hW⟩ := h
  refine ⟨⟨a1, a2, a3, a4, a5, a6, a7, rfl, a9⟩, ⟨G, n, m, hG, hr, ?_, hR, hK⟩, hT, hP, hF, hW⟩
  rcases hG with ⟨rfl, -⟩ | ⟨rfl, -⟩
  · exact hL
  · exact hL
theorem op_asof {N : Nat} {hS hM : MH} (h : Inv2 hS hM) (a : Int32) : OK2 hS hM (f_S_asof N a hS) (f_M_asof N a hM) := by
  unfold f_S_asof f_M_asof f_S_deny f_S_allow
  simp only [eS_isDay, eM_isDay, eM_is, bnd_some, bz]
  by_cases g : 0 ≤ a ∧ a ≤ 9999
  · rw [if_neg (by simp [g]), if_neg (by simp [g])]
    exact ⟨1, _, _, rfl, rfl, Inv_st (Inv_asof h a) 0, (Fr.rfl.sI 16 11 a rfl).sI 1 12 0 rfl, (Fr.rfl.sI 68 51 a rfl).sI 68 0 0 rfl⟩
  · rw [if_pos g, if_pos g]
    exact OK2_st h Fr.rfl Fr.rfl _ _
theorem Inv_smooth {hS hM : MH} (h : Inv2 hS hM) {s : Nat} (hs : s ≤ 9) : Inv2 (sI hS 1 15 (nI s)) (sI hM 68 66 (nI s)) := by
  obtain ⟨⟨a1, a2, a3, a4, a5, a6, a7, a8, a9⟩, ⟨G, n, m, ⟨hG, hr, hL, hR, hK⟩⟩, hT, hP, hF, hW⟩ := h
  refine ⟨⟨a1, a2, a3, a4, a5, ⟨rfl, s, hs, rfl⟩, a7, a8, a9⟩, ⟨G, n, m, hG, hr, ?_, hR, hK⟩, hT, hP, hF, hW⟩
  rcases hG with ⟨rfl, -⟩ | ⟨rfl, -⟩
  · exact hL
  · exact hL
theorem op_smooth {N : Nat} {hS hM : MH} (h : Inv2 hS hM) (a : Int32) : OK2 hS hM (f_S_smooth N a hS) (f_M_smooth N a hM) := by
  unfold f_S_smooth f_M_smooth f_S_deny f_S_allow
  simp only [eS_isWithin, eM_is, bnd_some, bz, iteV]
  by_cases g : 0 ≤ a ∧ a ≤ 9
  · rw [if_neg (by simp [g]), if_pos g]
    obtain ⟨s, hs, rfl⟩ := rngle (n := 9) (by omega) g
    exact ⟨1, _, _, rfl, rfl, Inv_st (Inv_smooth h hs) 0, (Fr.rfl.sI 1 15 _ rfl).sI 1 12 0 rfl, (Fr.rfl.sI 68 66 _ rfl).sI 68 0 0 rfl⟩
  · rw [if_pos g, if_neg g]
    exact OK2_st h Fr.rfl Fr.rfl _ _
theorem eLedger_addRow {N r : Nat} {h : MH} (hr : r < 160) (e : gI h 16 5 = nI r) (a1 a2 a3 a4 a5 : Int32) : f_Ledger_addRow N a1 a2 a3 a4 a5 h = some (sI (sI (sI (sI (sI (sI (sI h 17 r a1) 18 r a2) 19 r a3) 20 r a4) 21 r a5) 16 5 (nI (r + 1))) 16 10 a5) := by
  unfold f_Ledger_addRow
  have k1 : ∀ v, gI (sI h 17 r v) 16 5 = nI r := fun v => e
  have k2 : ∀ v w, gI (sI (sI h 17 r v) 18 r w) 16 5 = nI r := fun v w => e
  have k3 : ∀ v w x, gI (sI (sI (sI h 17 r v) 18 r w) 19 r x) 16 5 = nI r := fun v w x => e
  have k4 : ∀ v w x y, gI (sI (sI (sI (sI h 17 r v) 18 r w) 19 r x) 20 r y) 16 5 = nI r := fun v w x y => e
  have k5 : ∀ v w x y z, gI (sI (sI (sI (sI (sI h 17 r v) 18 r w) 19 r x) 20 r y) 21 r z) 16 5 = nI r := fun v w x y z => e
  simp (disch := omega) only [e, k1, k2, k3, k4, k5, iN_nI, inB_nI, hr, if_true, L1, nN_add]
  rw [if_neg]
  rw [show (160 : Int32) = nI 160 from rfl, nN_le (by omega) (by omega)]
  omega
theorem set_lt {A : Type} {f : Nat → A} {r : Nat} {v : A} {P : Nat → A → Prop} (h1 : ∀ k, k < r → P k (f k)) (h2 : P r v) : ∀ k, k < r + 1 → P k (if k = r then v else f k) := by
  intro k hk
  split
  · next q => rw [q]; exact h2
  · exact h1 k (by omega)
theorem op_row {N : Nat} {hS hM : MH} (h : Inv2 hS hM) (a1 a2 a3 a4 a5 : Int32) : OK2 hS hM (f_S_row N a1 a2 a3 a4 a5 hS) (f_M_row N a1 a2 a3 a4 a5 hM) := by
  obtain ⟨G, n, m, hE, hn, hm, eG, e1, e2, e3, e4⟩ := Inv_nm h
  obtain ⟨hG, hr, hL, ⟨r, o, hR⟩, hK⟩ := id hE
  obtain ⟨⟨R1, R2⟩, ⟨R3, R4⟩, ⟨R5, R6⟩, R7, R8, R9⟩ := hR
  unfold f_S_row f_M_row f_S_deny f_S_allow
  simp only [eS_isMark, eM_isMark, eS_isYear, eM_isYear, eS_isWithin, eM_isPlace, eS_isDay, eM_isDay, eM_is, bnd_some, bz, iteW, eG, e2, e4, R3, R4]
  by_cases g1 : 0 ≤ a1 ∧ a1 < nI m
  · by_cases g2 : 0 ≤ a2 ∧ a2 < 20
    · by_cases g3 : -2000 ≤ a3 ∧ a3 ≤ 2000
      · by_cases g4 : 0 ≤ a4 ∧ a4 ≤ 200
        · by_cases g5 : 0 ≤ a5 ∧ a5 ≤ 9999
          · simp only [g1, g2, g3, g4, g5, not_true, and_self, if_false, if_true]
            by_cases g6 : r < 160
            · rw [if_pos (show nI r < 160 by rw [show (160 : Int32) = nI 160 from rfl, nN_lt (by omega) (by omega)]; omega), if_neg (show ¬ nI r = 160 by rw [show (160 : Int32) = nI 160 from rfl, nN_inj (by omega) (by omega)]; omega)]
              have eL : gI hS 16 10 = gI hM 68 50 := h.1.2.2.2.2.2.2.2.2
              rw [eL]
              by_cases g7 : gI hM 68 50 ≤ a5
              · rw [if_pos g7, if_pos g7, eLedger_addRow g6 R3]
                have kk : ∀ v, gI (sI hM 68 50 v) 68 48 = nI r := fun v => R4
                have k1 : ∀ v w, gI (sI (sI hM 68 50 v) 95 r w) 68 48 = nI r := fun v w => R4
                have k2 : ∀ v w x, gI (sI (sI (sI hM 68 50 v) 95 r w) 96 r x) 68 48 = nI r := fun v w x => R4
                have k3 : ∀ v w x y, gI (sI (sI (sI (sI hM 68 50 v) 95 r w) 96 r x) 97 r y) 68 48 = nI r := fun v w x y => R4
                have k4 : ∀ v w x y z, gI (sI (sI (sI (sI (sI hM 68 50 v) 95 r w) 96 r x) 97 r y) 98 r z) 68 48 = nI r := fun v w x y z => R4
                have k5 : ∀ v w x y z u, gI (sI (sI (sI (sI (sI (sI hM 68 50 v) 95 r w) 96 r x) 97 r y) 98 r z) 99 r u) 68 48 = nI r := fun v w x y z u => R4
                simp (disch := omega) only [kk, k1, k2, k3, k4, k5, iN_nI, inB_nI, g6, if_true, L1, nN_add, bnd_some]
                refine ⟨1, _, _, rfl, rfl, ?_, ?_, ?_⟩
                · refine Inv_st ?_ 0
                  obtain ⟨⟨b1, b2, b3, b4, b5, b6, b7, b8, b9⟩, -, hT, hP, hF, hW⟩ := h
                  refine ⟨⟨b1, b2, b3, b4, b5, b6, b7, b8, rfl⟩, ⟨G, n, m, hG, hr, ?_, ⟨r + 1, o, ?_⟩, hK⟩, hT, hP, hF, hW⟩
                  · rcases hG with ⟨rfl, -⟩ | ⟨rfl, -⟩
                    · exact hL
                    · exact hL
                  · refine ⟨⟨by omega, R2⟩, ⟨rfl, rfl⟩, ⟨R5, R6⟩, ?_, R8, R9⟩
                    intro k hk
                    by_cases q : k = r
                    · subst q
                      have s1 : ∀ (h : MH) c v, gI (sI h c k v) c k = v := fun h c v => by rw [gI_sI]; simp
                      refine ⟨?_, ?_, ?_, ?_, ?_, ?_, ?_, ?_⟩
                      · simp [gI_sI]
                      · simp [gI_sI]
                      · simp [gI_sI]
                      · simp [gI_sI]
                      · simp [gI_sI]
                      · obtain ⟨y, hy, rfl⟩ := rng (n := 20) (by omega) g2
                        exact ⟨y, hy, by simp [gI_sI]⟩
                      · have t1 := Int32.le_iff_toInt_le.mp g3.1
                        have t2 := Int32.le_iff_toInt_le.mp g3.2
                        simp [gI_sI]
                        exact ⟨t1, t2⟩
                      · obtain ⟨y, hy, rfl⟩ := rngle (n := 200) (by omega) g4
                        exact ⟨y, hy, by simp [gI_sI]⟩
                    · have := R7 k (by omega)
                      simpa [gI_sI, q] using this
                · exact ((((((((Fr.rfl.sI 17 r _ rfl).sI 18 r _ rfl).sI 19 r _ rfl).sI 20 r _ rfl).sI 21 r _ rfl).sI 16 5 _ rfl).sI 16 10 _ rfl).sI 1 12 0 rfl)
                · exact ((((((((Fr.rfl.sI 68 50 _ rfl).sI 95 r _ rfl).sI 96 r _ rfl).sI 97 r _ rfl).sI 98 r _ rfl).sI 99 r _ rfl).sI 68 48 _ rfl).sI 68 0 0 rfl)
              · rw [if_neg g7, if_neg g7]
                exact OK2_st h Fr.rfl Fr.rfl _ _
            · rw [if_neg (show ¬ nI r < 160 by rw [show (160 : Int32) = nI 160 from rfl, nN_lt (by omega) (by omega)]; omega), if_pos (show nI r = 160 by rw [show (160 : Int32) = nI 160 from rfl, nN_inj (by omega) (by omega)]; omega)]
              exact OK2_st h Fr.rfl Fr.rfl _ _
          · simp only [g1, g2, g3, g4, g5, not_true, not_false_eq_true, and_self, if_false, if_true]
            exact OK2_st h Fr.rfl Fr.rfl _ _
        · simp only [g1, g2, g3, g4, not_true, not_false_eq_true, and_self, if_false, if_true]
          exact OK2_st h Fr.rfl Fr.rfl _ _
      · simp only [g1, g2, g3, not_true, not_false_eq_true, and_self, if_false, if_true]
        exact OK2_st h Fr.rfl Fr.rfl _ _
    · simp only [g1, g2, not_true, not_false_eq_true, and_self, if_false, if_true]
      exact OK2_st h Fr.rfl Fr.rfl _ _
  · simp only [g1, not_true, not_false_eq_true, and_self, if_false, if_true]
    exact OK2_st h Fr.rfl Fr.rfl _ _
