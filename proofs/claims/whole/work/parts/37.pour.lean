/-! POUR, OFFSET, SHAKE, FEED -/
theorem bm32 {x : Int} (h1 : -2147483648 ≤ x) (h2 : x < 2147483648) : x.bmod (2 ^ 32) = x := Int.bmod_eq_of_le_mul_two (by omega) (by omega)
theorem bm64 {x : Int} (h1 : -9223372036854775808 ≤ x) (h2 : x < 9223372036854775808) : x.bmod (2 ^ 64) = x := Int.bmod_eq_of_le_mul_two (by omega) (by omega)
theorem i_add {x y : Int32} (h1 : -2147483648 ≤ x.toInt + y.toInt) (h2 : x.toInt + y.toInt < 2147483648) : (x + y).toInt = x.toInt + y.toInt := by rw [Int32.toInt_add, bm32 h1 h2]
theorem i_sub {x y : Int32} (h1 : -2147483648 ≤ x.toInt - y.toInt) (h2 : x.toInt - y.toInt < 2147483648) : (x - y).toInt = x.toInt - y.toInt := by rw [Int32.toInt_sub, bm32 h1 h2]
theorem i_mul {x y : Int32} (h1 : -2147483648 ≤ x.toInt * y.toInt) (h2 : x.toInt * y.toInt < 2147483648) : (x * y).toInt = x.toInt * y.toInt := by rw [Int32.toInt_mul, bm32 h1 h2]
theorem j_add {x y : Int64} (h1 : -9223372036854775808 ≤ x.toInt + y.toInt) (h2 : x.toInt + y.toInt < 9223372036854775808) : (x + y).toInt = x.toInt + y.toInt := by rw [Int64.toInt_add, bm64 h1 h2]
theorem j_sub {x y : Int64} (h1 : -9223372036854775808 ≤ x.toInt - y.toInt) (h2 : x.toInt - y.toInt < 9223372036854775808) : (x - y).toInt = x.toInt - y.toInt := by rw [Int64.toInt_sub, bm64 h1 h2]
theorem j_mul {x y : Int64} (h1 : -9223372036854775808 ≤ x.toInt * y.toInt) (h2 : x.toInt * y.toInt < 9223372036854775808) : (x * y).toInt = x.toInt * y.toInt := by rw [Int64.toInt_mul, bm64 h1 h2]
theorem nsub_lt {z p m : Nat} (hz : z < 2147483648) (hp : p < 2147483648) (hm : m < 2147483648) : (nI z - nI p < nI m) = (z < m + p) := by
  rw [Int32.lt_iff_toInt_lt, i_sub, nN_toInt hz, nN_toInt hp, nN_toInt hm]
  · exact propext (by omega)
  · rw [nN_toInt hz, nN_toInt hp]; omega
  · rw [nN_toInt hz, nN_toInt hp]; omega
theorem nsub_le {z p m : Nat} (hz : z < 2147483648) (hp : p < 2147483648) (hm : m < 2147483648) : (nI m ≤ nI z - nI p) = (m + p ≤ z) := by
  rw [Int32.le_iff_toInt_le, i_sub, nN_toInt hz, nN_toInt hp, nN_toInt hm]
  · exact propext (by omega)
  · rw [nN_toInt hz, nN_toInt hp]; omega
  · rw [nN_toInt hz, nN_toInt hp]; omega
theorem lM_pour_up {N tf p tt a m : Nat} (h4 : tf < 4) (h5 : tt < 4) (hp : p + m ≤ 60) (ha : a + m ≤ 60) (hd : a ≤ p) (hh : 60 * tt + a ≤ 60 * tf + p ∨ 60 * tf + p + m ≤ 60 * tt + a) (h0 : MH) : ∀ (n i : Nat) (h : MH), i ≤ m → m - i < n → (∀ j, gJ h 71 j = if 60 * tt + a ≤ j ∧ j < 60 * tt + a + i then gJ h0 71 (60 * tf + p + (j - (60 * tt + a))) else gJ h0 71 j) → Fr (wTM tt) h0 h →
    ∃ h', L_M_pour N n (nI tf) (nI p) (nI tt) (nI a) (nI m) (nI i) h = some (1, sI h' 68 0 0) ∧ (∀ j, gJ h' 71 j = if 60 * tt + a ≤ j ∧ j < 60 * tt + a + m then gJ h0 71 (60 * tf + p + (j - (60 * tt + a))) else gJ h0 71 j) ∧ Fr (wTM tt) h0 h' ∧ (∀ k, gI h' 69 k = gI h 69 k ∧ gI h' 70 k = gI h 70 k) := by
  intro n
  induction n with
  | zero => intro i h _ h2; omega
  | succ n ih =>
    intro i h h1 h2 hj hf
    show ∃ h', F_M_pour_118 N (L_M_pour N n) (nI tf) (nI p) (nI tt) (nI a) (nI m) (nI i) h = some (1, sI h' 68 0 0) ∧ _
    unfold F_M_pour_118 F_M_pour_143
    simp (disch := omega) only [nN_le, inB_nI, iN_nI, L60, L1, nN_add, nN_mul, eM_is, bnd_some]
    by_cases g : m ≤ i
    · rw [if_pos g]
      have : i = m := by omega
      subst this
      exact ⟨h, rfl, hj, hf, fun k => ⟨rfl, rfl⟩⟩
    · rw [if_neg g, if_pos hd, if_pos (by omega), if_pos (by omega)]
      refine ih (i + 1) (sJ h 71 (60 * tt + a + i) (gJ h 71 (60 * tf + p + i))) (by omega) (by omega) ?_ (hf.sJ _ _ _ (by simp [wTM]; omega))
      · intro j
        rw [gJ_sJ]
        by_cases q : j = 60 * tt + a + i
        · rw [if_pos ⟨rfl, q⟩, if_pos (by omega), hj, if_neg (by omega)]
          congr 1; omega
        · rw [if_neg (by omega), hj]
          by_cases q2 : 60 * tt + a ≤ j ∧ j < 60 * tt + a + i
          · rw [if_pos q2, if_pos (by omega)]
          · rw [if_neg q2, if_neg (by omega)]
theorem lM_pour_dn {N tf p tt a m : Nat} (h4 : tf < 4) (h5 : tt < 4) (hp : p + m ≤ 60) (ha : a + m ≤ 60) (hd : ¬ a ≤ p) (hh : 60 * tf + p ≤ 60 * tt + a ∨ 60 * tt + a + m ≤ 60 * tf + p) (h0 : MH) : ∀ (n i : Nat) (h : MH), i ≤ m → m - i < n → (∀ j, gJ h 71 j = if 60 * tt + a + (m - i) ≤ j ∧ j < 60 * tt + a + m then gJ h0 71 (60 * tf + p + (j - (60 * tt + a))) else gJ h0 71 j) → Fr (wTM tt) h0 h →
    ∃ h', L_M_pour N n (nI tf) (nI p) (nI tt) (nI a) (nI m) (nI i) h = some (1, sI h' 68 0 0) ∧ (∀ j, gJ h' 71 j = if 60 * tt + a ≤ j ∧ j < 60 * tt + a + m then gJ h0 71 (60 * tf + p + (j - (60 * tt + a))) else gJ h0 71 j) ∧ Fr (wTM tt) h0 h' ∧ (∀ k, gI h' 69 k = gI h 69 k ∧ gI h' 70 k = gI h 70 k) := by
  intro n
  induction n with
  | zero => intro i h _ h2; omega
  | succ n ih =>
    intro i h h1 h2 hj hf
    show ∃ h', F_M_pour_118 N (L_M_pour N n) (nI tf) (nI p) (nI tt) (nI a) (nI m) (nI i) h = some (1, sI h' 68 0 0) ∧ _
    unfold F_M_pour_118 F_M_pour_143
    by_cases g : m ≤ i
    · simp (disch := omega) only [nN_le, inB_nI, iN_nI, L60, nN_add, nN_mul, eM_is, bnd_some]
      rw [if_pos g]
      have : i = m := by omega
      subst this
      refine ⟨h, rfl, fun j => ?_, hf, fun k => ⟨rfl, rfl⟩⟩
      rw [hj]
      by_cases q2 : 60 * tt + a ≤ j ∧ j < 60 * tt + a + i
      · rw [if_pos q2, if_pos (by omega)]
      · rw [if_neg q2, if_neg (by omega)]
    · have e : nI m - 1 - nI i = nI (m - 1 - i) := by rw [L1, nN_sub (by omega), nN_sub (by omega)]
      rw [e]
      simp (disch := omega) only [nN_le, inB_nI, iN_nI, L60, L1, nN_add, nN_mul, eM_is, bnd_some]
      rw [if_neg g, if_neg hd, if_pos (by omega), if_pos (by omega)]
      refine ih (i + 1) (sJ h 71 (60 * tt + a + (m - 1 - i)) (gJ h 71 (60 * tf + p + (m - 1 - i)))) (by omega) (by omega) ?_ (hf.sJ _ _ _ (by simp [wTM]; omega))
      · intro j
        rw [gJ_sJ]
        by_cases q : j = 60 * tt + a + (m - 1 - i)
        · rw [if_pos ⟨rfl, q⟩, if_pos (by omega), hj, if_neg (by omega)]
          congr 1; omega
        · rw [if_neg (by omega), hj]
          by_cases q2 : 60 * tt + a + (m - i) ≤ j ∧ j < 60 * tt + a + m
          · rw [if_pos q2, if_pos (by omega)]
          · rw [if_neg q2, if_neg (by omega)]
theorem lM_pour {N tf p tt a m : Nat} (hN : 100 < N) (h4 : tf < 4) (h5 : tt < 4) (hp : p + m ≤ 60) (ha : a + m ≤ 60) (h0 : MH) :
    ∃ h', F_M_pour_118 N (L_M_pour N N) (nI tf) (nI p) (nI tt) (nI a) (nI m) 0 h0 = some (1, sI h' 68 0 0) ∧ (∀ j, gJ h' 71 j = if 60 * tt + a ≤ j ∧ j < 60 * tt + a + m then gJ h0 71 (60 * tf + p + (j - (60 * tt + a))) else gJ h0 71 j) ∧ Fr (wTM tt) h0 h' ∧ (∀ k, gI h' 69 k = gI h0 69 k ∧ gI h' 70 k = gI h0 70 k) := by
  by_cases hd : a ≤ p
  · exact lM_pour_up h4 h5 hp ha hd (by omega) h0 (N + 1) 0 h0 (by omega) (by omega) (fun j => by rw [if_neg (by omega)]) Fr.rfl
  · exact lM_pour_dn h4 h5 hp ha hd (by omega) h0 (N + 1) 0 h0 (by omega) (by omega) (fun j => by rw [if_neg (by omega)]) Fr.rfl
theorem eTray_reaches {N t z p m : Nat} {hS : MH} (hz : z ≤ 60) (e : gI hS (60 + 2 * t) 2 = nI z) (hp : p < 2147483648) (hm : m < 2147483648) : f_Tray_reaches N (60 + 2 * t) (nI p) (nI m) hS = some (if m + p ≤ z then 1 else 0, hS) := by
  unfold f_Tray_reaches
  simp (disch := omega) only [e, nN_lt, nsub_lt]
  by_cases g : m + p ≤ z
  · rw [if_neg (by omega), if_neg (by omega), if_pos g]
  · rw [if_neg g]
    by_cases g2 : z < p
    · rw [if_pos g2]
    · rw [if_neg g2, if_pos (by omega)]
theorem op_pour {N : Nat} (hN : 100 < N) {hS hM : MH} (h : Inv2 hS hM) (a1 a2 a3 a4 a5 : Int32) : OK2 hS hM (f_S_pour N a1 a2 a3 a4 a5 hS) (f_M_pour N a1 a2 a3 a4 a5 hM) := by
  unfold f_S_pour f_M_pour F_M_pour_0 f_S_deny f_S_allow
  simp only [eS_isTray, eM_isTray, eM_is, bnd_some, bz]
  by_cases g1 : 0 ≤ a1 ∧ a1 < 4
  case neg =>
    simp only [g1, not_false_eq_true, if_true]
    exact OK2_st h Fr.rfl Fr.rfl _ _
  by_cases g3 : 0 ≤ a3 ∧ a3 < 4
  case neg =>
    simp only [g1, g3, and_self, not_true, not_false_eq_true, if_true, if_false]
    exact OK2_st h Fr.rfl Fr.rfl _ _
  by_cases g2 : a2 < 0
  case pos =>
    simp only [g1, g3, g2, and_self, not_true, not_false_eq_true, if_true, if_false]
    exact OK2_st h Fr.rfl Fr.rfl _ _
  by_cases g4 : a4 < 0
  case pos =>
    simp only [g1, g3, g2, g4, and_self, not_true, not_false_eq_true, if_true, if_false]
    exact OK2_st h Fr.rfl Fr.rfl _ _
  by_cases g5 : 0 ≤ a5
  case neg =>
    simp only [g1, g3, g2, g4, g5, and_self, not_true, not_false_eq_true, if_true, if_false]
    exact OK2_st h Fr.rfl Fr.rfl _ _
  obtain ⟨tf, hf, rfl⟩ := rng (n := 4) (by omega) g1
  obtain ⟨tt, ht, rfl⟩ := rng (n := 4) (by omega) g3
  have Tf := Inv_T h hf
  have Tt := Inv_T h ht
  simp (disch := omega) only [g1, g3, g2, g4, g5, and_self, not_true, not_false_eq_true, if_true, if_false, inB_nI, iN_nI, hf, ht]
  rw [Tf.1, Tt.1, eTray_isMissing Tf, bnd_some]
  simp only [eTray_isMissing Tt, bnd_some, bz]
  obtain ⟨F1, ⟨sf, sf1, sf2, sf3⟩, F3, F4⟩ := Tf
  obtain ⟨T1, ⟨st, st1, st2, st3⟩, T3, T4⟩ := Tt
  rcases F4 with q | ⟨zf, zf1, zf2, zf3⟩
  · simp only [q, not_true, if_true, if_false]
    exact OK2_st h Fr.rfl Fr.rfl _ _
  have nf : ¬ gI hM 70 tf = -1 := by
    rw [zf2]; intro q
    have : (0 : Int32) ≤ nI zf := by rw [L0, nN_le (by omega) (by omega)]; omega
    rw [q] at this; revert this; decide
  rcases T4 with q | ⟨zt, zt1, zt2, zt3⟩
  · simp only [nf, q, not_true, not_false_eq_true, if_true, if_false]
    exact OK2_st h Fr.rfl Fr.rfl _ _
  have nt : ¬ gI hM 70 tt = -1 := by
    rw [zt2]; intro q
    have : (0 : Int32) ≤ nI zt := by rw [L0, nN_le (by omega) (by omega)]; omega
    rw [q] at this; revert this; decide
  simp only [nf, nt, not_true, not_false_eq_true, if_true, if_false]
  obtain ⟨p, hp, rfl⟩ := nI_ex (Int32.not_lt.mp g2)
  obtain ⟨a, ha, rfl⟩ := nI_ex (Int32.not_lt.mp g4)
  obtain ⟨m, hm, rfl⟩ := nI_ex g5
  simp (disch := omega) only [sf2, sf3, st2, st3, nN_inj]
  by_cases gs : sf = st
  case neg =>
    simp only [gs, if_false]
    exact OK2_st h Fr.rfl Fr.rfl _ _
  simp only [gs, if_true]
  rw [eTray_reaches zf1 (by rw [F3, zf2]) hp hm, bnd_some, eTray_reaches zt1 (by rw [T3, zt2]) ha hm]
  simp (disch := omega) only [bnd_some, bz, zf2, zt2, nsub_lt, nsub_le, iN_nI]
  by_cases gf : m + p ≤ zf
  case neg =>
    rw [if_pos gf, if_pos (by omega)]
    exact OK2_st h Fr.rfl Fr.rfl _ _
  by_cases gt : m + a ≤ zt
  case neg =>
    rw [if_neg (by omega), if_pos gt, if_neg (by omega), if_neg gt]
    exact OK2_st h Fr.rfl Fr.rfl _ _
  have nn : ∀ k, k < 2147483648 → (0 : Int32) ≤ nI k := fun k hk => by rw [L0, nN_le (by omega) hk]; omega
  rw [if_neg (by omega), if_neg (by omega), if_pos ⟨trivial, nn p hp, nn a ha, by omega, by omega⟩, if_neg (by omega), if_pos gt]
  obtain ⟨h', e1, e2, e3, e4⟩ := lM_pour (N := N) (tf := tf) (p := p) (tt := tt) (a := a) (m := m) hN hf ht (by omega) (by omega) hM
  rw [e1]
  have fS : Fr (wTS tt) hS (cJ hS (60 + 2 * tf + 1) (60 + 2 * tt + 1) p a m) := Fr.rfl.cJ _ _ _ _ _ (fun k _ _ => by simp [wTS])
  refine ⟨1, _, _, rfl, rfl, Inv_st (Inv_tray h ht fS e3 ?_) 0, (fS.mono (fun _ _ => wTS_le ht)).sI 1 12 0 rfl, (e3.mono (fun _ _ => wTM_le)).sI 68 0 0 rfl⟩
  refine ⟨T1, ⟨st, st1, st2, by rw [(e4 tt).1]; exact st3⟩, by rw [(e4 tt).2]; exact T3, .inr ⟨zt, zt1, by rw [(e4 tt).2]; exact zt2, fun k hk => ?_⟩⟩
  rw [gJ_cJ, e2]
  by_cases q : a ≤ k ∧ k < a + m
  · rw [if_pos ⟨rfl, q⟩, if_pos (by omega), zf3 (p + (k - a)) (by omega)]
    congr 1; omega
  · rw [if_neg (by omega), if_neg (by omega), zt3 k hk]
theorem op_offset {N : Nat} {hS hM : MH} (h : Inv2 hS hM) (a1 a2 a3 : Int32) : OK2 hS hM (f_S_offset N a1 a2 a3 hS) (f_M_offset N a1 a2 a3 hM) := by
  obtain ⟨G, n, m, hE, hn, hm, eG, e1, e2, e3, e4⟩ := Inv_nm h
  obtain ⟨hG, hr, hL, ⟨r, o, hR⟩, hK⟩ := id hE
  obtain ⟨⟨R1, R2⟩, ⟨R3, R4⟩, ⟨R5, R6⟩, R7, R8, R9⟩ := hR
  unfold f_S_offset f_M_offset f_S_deny f_S_allow
  simp only [eS_isMark, eM_isMark, eS_isYear, eM_isYear, eS_isWithin, eM_isPlace, eM_is, bnd_some, bz, eG, e2, e4, R5, R6]
  by_cases g1 : 0 ≤ a1 ∧ a1 < nI m
  case neg =>
    simp only [g1, not_false_eq_true, if_true]
    exact OK2_st h Fr.rfl Fr.rfl _ _
  by_cases g2 : 0 ≤ a2 ∧ a2 < 20
  case neg =>
    simp only [g1, g2, and_self, not_true, not_false_eq_true, if_true, if_false]
    exact OK2_st h Fr.rfl Fr.rfl _ _
  by_cases g3 : -2000 ≤ a3 ∧ a3 ≤ 2000
  case neg =>
    simp only [g1, g2, g3, and_self, not_true, not_false_eq_true, if_true, if_false]
    exact OK2_st h Fr.rfl Fr.rfl _ _
  simp only [g1, g2, g3, and_self, not_true, not_false_eq_true, if_true, if_false]
  have d1 : (nI o < 20) = (o < 20) := nN_lt (b := 20) (by omega) (by omega)
  have d2 : (nI o = 20) = (o = 20) := nN_inj (b := 20) (by omega) (by omega)
  simp only [d1, d2]
  by_cases g6 : o < 20
  case neg =>
    rw [if_neg g6, if_pos (by omega)]
    exact OK2_st h Fr.rfl Fr.rfl _ _
  rw [if_pos g6, if_neg (by omega)]
  have q1 : f_Ledger_addOffset N a1 a2 a3 hS = some (sI (sI (sI (sI hS 22 o a1) 23 o a2) 24 o a3) 16 9 (nI (o + 1))) := by
    unfold f_Ledger_addOffset
    have k1 : ∀ v, gI (sI hS 22 o v) 16 9 = nI o := fun v => R5
    have k2 : ∀ v w, gI (sI (sI hS 22 o v) 23 o w) 16 9 = nI o := fun v w => R5
    have k3 : ∀ v w x, gI (sI (sI (sI hS 22 o v) 23 o w) 24 o x) 16 9 = nI o := fun v w x => R5
    simp (disch := omega) only [R5, k1, k2, k3, iN_nI, inB_nI, g6, if_true, L1, L20, nN_add, nN_le]
    rw [if_neg (by omega)]
  rw [q1]
  have k1 : ∀ v, gI (sI hM 100 o v) 68 49 = nI o := fun v => R6
  have k2 : ∀ v w, gI (sI (sI hM 100 o v) 101 o w) 68 49 = nI o := fun v w => R6
  have k3 : ∀ v w x, gI (sI (sI (sI hM 100 o v) 101 o w) 102 o x) 68 49 = nI o := fun v w x => R6
  simp (disch := omega) only [k1, k2, k3, iN_nI, inB_nI, g6, if_true, L1, nN_add, bnd_some]
  refine ⟨1, _, _, rfl, rfl, ?_, ?_, ?_⟩
  · refine Inv_st ?_ 0
    obtain ⟨hA, -, hT, hP, hF, hW⟩ := h
    refine ⟨hA, ⟨G, n, m, hG, hr, ?_, ⟨r, o + 1, ?_⟩, hK⟩, hT, hP, hF, hW⟩
    · rcases hG with ⟨rfl, -⟩ | ⟨rfl, -⟩
      · exact hL
      · exact hL
    · refine ⟨⟨R1, by omega⟩, ⟨R3, R4⟩, ⟨rfl, rfl⟩, R7, ?_, R9⟩
      intro k hk
      by_cases q : k = o
      · subst q
        refine ⟨?_, ?_, ?_, ?_, ?_⟩
        · simp [gI_sI]
        · simp [gI_sI]
        · simp [gI_sI]
        · obtain ⟨y, hy, rfl⟩ := rng (n := 20) (by omega) g2
          exact ⟨y, hy, by simp [gI_sI]⟩
        · have t1 := Int32.le_iff_toInt_le.mp g3.1
          have t2 := Int32.le_iff_toInt_le.mp g3.2
          simp [gI_sI]
          exact ⟨t1, t2⟩
      · have := R8 k (by omega)
        simpa [gI_sI, q] using this
  · exact ((((Fr.rfl.sI 22 o _ rfl).sI 23 o _ rfl).sI 24 o _ rfl).sI 16 9 _ rfl).sI 1 12 0 rfl
  · exact ((((Fr.rfl.sI 100 o _ rfl).sI 101 o _ rfl).sI 102 o _ rfl).sI 68 49 _ rfl).sI 68 0 0 rfl
theorem op_shake {N : Nat} {hS hM : MH} (h : Inv2 hS hM) (a1 a2 a3 : Int32) : OK2 hS hM (f_S_shake N a1 a2 a3 hS) (f_M_shake N a1 a2 a3 hM) := by
  obtain ⟨G, n, m, hE, hn, hm, eG, e1, e2, e3, e4⟩ := Inv_nm h
  obtain ⟨hG, hr, hL, hR, ⟨s, S1, ⟨S2, S3⟩, S4⟩⟩ := id hE
  unfold f_S_shake f_M_shake f_S_deny f_S_allow
  simp only [eS_isYear, eM_isYear, eS_isCell, eM_isCell, eS_isWithin, eM_is, bnd_some, bz, iteV, eG, e1, e3, S2, S3]
  by_cases g1 : 0 ≤ a1 ∧ a1 < 20
  case neg =>
    simp only [g1, not_false_eq_true, if_true]
    exact OK2_st h Fr.rfl Fr.rfl _ _
  by_cases g2 : 0 ≤ a2 ∧ a2 < nI n
  case neg =>
    simp only [g1, g2, and_self, not_true, not_false_eq_true, if_true, if_false]
    exact OK2_st h Fr.rfl Fr.rfl _ _
  by_cases g3 : 0 ≤ a3 ∧ a3 ≤ 99
  case neg =>
    simp only [g1, g2, g3, and_self, not_true, not_false_eq_true, if_true, if_false]
    exact OK2_st h Fr.rfl Fr.rfl _ _
  simp only [g1, g2, g3, and_self, not_true, not_false_eq_true, if_true, if_false]
  have d1 : (nI s < 30) = (s < 30) := nN_lt (b := 30) (by omega) (by omega)
  have d2 : (nI s = 30) = (s = 30) := nN_inj (b := 30) (by omega) (by omega)
  have d3 : (30 ≤ nI s) = (30 ≤ s) := nN_le (a := 30) (by omega) (by omega)
  simp only [d1, d2]
  by_cases g6 : s < 30
  case neg =>
    rw [if_neg g6, if_pos (by omega)]
    exact OK2_st h Fr.rfl Fr.rfl _ _
  rw [if_pos g6, if_neg (by omega)]
  have q1 : f_Shakes_add N a1 a2 a3 hS = some (sI (sI (sI (sI hS 30 s a1) 31 s a2) 32 s a3) 29 3 (nI (s + 1))) := by
    unfold f_Shakes_add
    have k1 : ∀ v, gI (sI hS 30 s v) 29 3 = nI s := fun v => S2
    have k2 : ∀ v w, gI (sI (sI hS 30 s v) 31 s w) 29 3 = nI s := fun v w => S2
    have k3 : ∀ v w x, gI (sI (sI (sI hS 30 s v) 31 s w) 32 s x) 29 3 = nI s := fun v w x => S2
    simp (disch := omega) only [S2, k1, k2, k3, iN_nI, inB_nI, g6, if_true, L1, nN_add, d3]
    rw [if_neg (by omega)]
  rw [q1]
  have k1 : ∀ v, gI (sI hM 110 s v) 68 75 = nI s := fun v => S3
  have k2 : ∀ v w, gI (sI (sI hM 110 s v) 111 s w) 68 75 = nI s := fun v w => S3
  have k3 : ∀ v w x, gI (sI (sI (sI hM 110 s v) 111 s w) 112 s x) 68 75 = nI s := fun v w x => S3
  simp (disch := omega) only [k1, k2, k3, iN_nI, inB_nI, g6, if_true, L1, nN_add, bnd_some]
  refine ⟨1, _, _, rfl, rfl, ?_, ?_, ?_⟩
  · refine Inv_st ?_ 0
    obtain ⟨hA, -, hT, hP, hF, hW⟩ := h
    refine ⟨hA, ⟨G, n, m, hG, hr, ?_, hR, ⟨s + 1, ?_⟩⟩, hT, hP, hF, hW⟩
    · rcases hG with ⟨rfl, -⟩ | ⟨rfl, -⟩
      · exact hL
      · exact hL
    · refine ⟨by omega, ⟨rfl, rfl⟩, ?_⟩
      intro k hk
      by_cases q : k = s
      · subst q
        refine ⟨?_, ?_, ?_, ?_⟩
        · simp [gI_sI]
        · simp [gI_sI]
        · simp [gI_sI]
        · obtain ⟨y, hy, rfl⟩ := rngle (n := 99) (by omega) g3
          exact ⟨y, hy, by simp [gI_sI]⟩
      · have := S4 k (by omega)
        simpa [gI_sI, q] using this
  · exact ((((Fr.rfl.sI 30 s _ rfl).sI 31 s _ rfl).sI 32 s _ rfl).sI 29 3 _ rfl).sI 1 12 0 rfl
  · exact ((((Fr.rfl.sI 110 s _ rfl).sI 111 s _ rfl).sI 112 s _ rfl).sI 68 75 _ rfl).sI 68 0 0 rfl
