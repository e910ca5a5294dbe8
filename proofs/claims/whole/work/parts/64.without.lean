/-! SLIPS: without -/
theorem less_d : ∀ s : Fin 256, ∀ m : Fin 8, nI s &&& (nI (2 ^ m.val) ^^^ (-1)) = nI (s.val &&& (255 - 2 ^ m.val)) := by decide +kernel
theorem less_b : ∀ m j : Fin 8, (255 - 2 ^ m.val).testBit j.val = decide (j ≠ m) := by decide +kernel
theorem less_sub {s m k : Nat} (h : (s &&& (255 - 2 ^ m)).testBit k = true) : s.testBit k = true := by
  rw [Nat.testBit_and, Bool.and_eq_true] at h; exact h.1
theorem op_without {N : Nat} (hN : 20000000 < N) {hS hM : MH} (h : Inv2 hS hM) (a1 a2 a3 : Int32) : OK2 hS hM (f_S_without N a1 a2 a3 hS) (f_M_without N a1 a2 a3 hM) := by
  obtain ⟨G, n, m, hE, hn, hm, eG, e1, e2, e3, e4⟩ := Inv_nm h
  unfold f_S_without f_M_without f_S_refuse f_M_refuse f_S_answer f_M_gives
  simp only [eS_areYears, eM_areYears, eS_isMark, eM_isMark, bnd_some, bz, eG, e1, e2, e3, e4]
  by_cases g1 : (0 ≤ a1 ∧ a1 < 20) ∧ (0 ≤ a2 ∧ a2 < 20) ∧ a1 < a2
  case neg =>
    simp only [g1, not_false_eq_true, if_true]
    exact OK2_st h Fr.rfl Fr.rfl _ _
  rw [if_neg (not_not_intro g1), if_neg (not_not_intro g1)]
  by_cases g3 : 0 ≤ a3 ∧ a3 < nI m
  case neg =>
    simp only [g3, not_false_eq_true, if_true]
    exact OK2_st h Fr.rfl Fr.rfl _ _
  rw [if_neg (not_not_intro g3), if_neg (not_not_intro g3)]
  by_cases g2 : n = 0
  · subst g2
    rw [if_pos (show nI 0 = 0 from rfl), if_pos (show nI 0 = 0 from rfl)]
    exact OK2_st h Fr.rfl Fr.rfl _ _
  have g2' : ¬ nI n = 0 := by rw [show (0 : Int32) = nI 0 from rfl, nN_inj (by omega) (by omega)]; exact g2
  rw [if_neg g2', if_neg g2']
  obtain ⟨y1, y2, l1, l2, rfl, rfl⟩ := yr2 g1
  obtain ⟨k, hk, rfl⟩ := rng (by omega) g3
  obtain ⟨hx, hs, mv, k1, k2, k3, k4, k5, k6, k7, k8, k9, k10, k11, k12⟩ := ePrep (N := N) (by omega) h hE l1 l2
  obtain ⟨s, s1, s2, s3⟩ := Inv_s h
  have hW : IvW hx := Inv_W (Inv_vol h k3 k4)
  have ht := ten6 hn
  have el : nI mv &&& (nI (2 ^ k) ^^^ (-1)) = nI (mv &&& (255 - 2 ^ k)) := less_d ⟨mv, k9⟩ ⟨k, by omega⟩
  have lt : mv &&& (255 - 2 ^ k) < 256 := Nat.lt_of_le_of_lt Nat.and_le_left k9
  obtain ⟨hz, b1, b2, b3, -⟩ := eFinds (N := N) (by omega) (P := PBo hM hs n m) (sm := mv &&& (255 - 2 ^ k)) s1 (by show 0 < n; omega) k5 hW lt (fun j q => less_sub q)
  obtain ⟨hq, c1, c2, c3⟩ := eFindSets (N := N) hN (P := PBo hM hs n m) s1 k9 k6 (by rw [k11.i 68 66 rfl]; exact s3) k8
  have fS := k3.trans b2
  have fM := k4.trans (c2.mono (fun _ _ => wC_v))
  have iff := Cm_vld (P := PBo hM hs n m) (s := s) (mv := mv) (a := mv &&& (255 - 2 ^ k)) hm (fun j q => less_sub q) k10
  rw [k1, bnd_some, k2, bnd_some, c1, bnd_some, k7, shl_n (by omega), k3.i 1 15 rfl, s2, c2.i 68 67 rfl, k8, el]
  try dsimp only
  have ib : inB (nI (mv &&& (255 - 2 ^ k))) 256 = true := by rw [inB_nI (by omega)]; exact lt
  rw [b1, bnd_some, if_pos ib, iN_nI (by omega)]
  try dsimp only
  rcases b3 with ⟨z, y⟩ | ⟨z, k0, q1, q2, q3⟩
  · have no : ¬ Cm (CB (PBo hM hs n m) s mv (10 ^ (PBo hM hs n m).1)) 8 (mv &&& (255 - 2 ^ k)) := fun w => by
      obtain ⟨j, j1, j2⟩ := iff.mp w
      exact y j j1 j2
    rcases c3 _ lt with ⟨t1, t2⟩ | ⟨t1, t2⟩
    · exact absurd t2 no
    · rw [if_pos (by rw [z]; decide), if_pos t1]
      exact OK2_st h fS fM _ _
  · have z' : ¬ gI hz 42 4 ≤ 0 := by grind
    rcases c3 _ lt with ⟨t1, t2⟩ | ⟨t1, t2⟩
    · rw [if_neg (by rw [if_neg z']; decide), if_neg (by rw [t1]; decide)]
      exact OK2_st h fS fM _ _
    · exact absurd (iff.mpr ⟨k0, q2, q1.1⟩) t2
