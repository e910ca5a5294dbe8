/-! SAVED, FEED -/
def minJ (a b : Int64) : Int64 := if b < a then b else a
theorem eMin_JJ (N : Nat) (a b : Int64) (h : MH) : f_Math_min_JJ N a b h = some (minJ a b, h) := by
  unfold f_Math_min_JJ minJ
  have : (0 < lg_cmp a b) = (b < a) := by
    apply propext
    have q := @cmp_le a b
    constructor
    · intro z; exact Int64.not_le.mp (fun w => by rw [← q] at w; exact absurd z (Int32.not_lt.mpr w))
    · intro z; exact Int32.not_le.mp (fun w => by rw [q] at w; exact absurd z (Int64.not_lt.mpr w))
  simp only [this]
  split <;> rfl
def OkV (v : Int64) : Prop := 0 ≤ v.toInt ∧ v.toInt ≤ 10000000
def svQ (N : Nat) (h1 h2 : MH) (s : Option (Int64 × MH)) (m : Option (Int32 × MH)) : Prop := ∃ v, s = some (v, h1) ∧ m = f_M_fraction N v 10000 h2 ∧ OkV v
theorem svTake {T : Int64} {u : Nat} (hu : u ≤ 99) (hT : 0 ≤ T.toInt ∧ T.toInt ≤ 10000000) : 0 ≤ (T - minJ T ((nI u).toInt64 * 10000)).toInt ∧ (T - minJ T ((nI u).toInt64 * 10000)).toInt ≤ T.toInt := by
  have e : ((nI u).toInt64 * 10000).toInt = u * 10000 := by
    have t : (10000 : Int64).toInt = 10000 := rfl
    rw [j_mul, Int32.toInt_toInt64, nN_toInt (by omega), t] <;> rw [Int32.toInt_toInt64, nN_toInt (by omega), t] <;> omega
  unfold minJ
  by_cases c : (nI u).toInt64 * 10000 < T
  · rw [if_pos c]
    rw [Int64.lt_iff_toInt_lt, e] at c
    rw [j_sub (by rw [e]; omega) (by rw [e]; omega), e]
    omega
  · rw [if_neg c, j_sub (by omega) (by omega)]
    omega
theorem lSvIn {N : Nat} {hS hM : MH} {s : Nat} (hK : IvS hS hM s) {h1 h2 : MH} (f1 : Fr vS hS h1) (f2 : Fr vM hM h2) (cell what : Int32) (Y : Int32) (yr : Int64) (y K : Nat) (B : Int) (hB : B ≤ 10000000)
    (cont : ∀ T n n', 0 ≤ T.toInt → T.toInt ≤ B → K ≤ n → K ≤ n' → svQ N h1 h2 ((L_Shakes_left N n).1 cell Y yr T (nI (y + 1)) h1) ((L_M_saved N n').1 cell Y what T (nI (y + 1)) h2)) :
    ∀ (d i n n' : Nat) (T : Int64), i + d = s → K + d < n → K + d < n' → 0 ≤ T.toInt → T.toInt ≤ B → svQ N h1 h2 ((L_Shakes_left N n).2 cell Y yr T (nI y) (nI i) h1) ((L_M_saved N n').2 cell Y what T (nI y) (nI i) h2) := by
  obtain ⟨k1, ⟨k2, k3⟩, k4⟩ := hK
  have e1 : gI h1 29 3 = nI s := by rw [f1.i 29 3 rfl, k2]
  have e2 : gI h2 68 75 = nI s := by rw [f2.i 68 75 rfl, k3]
  intro d
  induction d with
  | zero =>
    intro i n n' T hd hn hn' t0 t1
    obtain ⟨n, rfl⟩ : ∃ q, n = q + 1 := ⟨n - 1, by omega⟩
    obtain ⟨n', rfl⟩ : ∃ q, n' = q + 1 := ⟨n' - 1, by omega⟩
    show svQ N h1 h2 (F_Shakes_left_21 N (L_Shakes_left N n) cell Y yr T (nI y) (nI i) h1) (F_M_saved_78 N (L_M_saved N n') cell Y what T (nI y) (nI i) h2)
    unfold F_Shakes_left_21 F_M_saved_78
    rw [e1, e2, if_pos (by rw [nN_le (by omega) (by omega)]; omega), if_pos (by rw [nN_le (by omega) (by omega)]; omega), show nI y + 1 = nI (y + 1) from nN_add y 1]
    exact cont T n n' t0 t1 (by omega) (by omega)
  | succ d ih =>
    intro i n n' T hd hn hn' t0 t1
    obtain ⟨n, rfl⟩ : ∃ q, n = q + 1 := ⟨n - 1, by omega⟩
    obtain ⟨n', rfl⟩ : ∃ q, n' = q + 1 := ⟨n' - 1, by omega⟩
    show svQ N h1 h2 (F_Shakes_left_21 N (L_Shakes_left N n) cell Y yr T (nI y) (nI i) h1) (F_M_saved_78 N (L_M_saved N n') cell Y what T (nI y) (nI i) h2)
    unfold F_Shakes_left_21 F_M_saved_78
    have ib : inB (nI i) 30 = true := by rw [inB_nI (by omega)]; omega
    obtain ⟨q1, q2, q3, u, hu, eu⟩ := k4 i (by omega)
    have c1 : gI h1 30 i = gI hM 110 i := by rw [f1.i 30 i rfl, q1]
    have c2 : gI h1 31 i = gI hM 111 i := by rw [f1.i 31 i rfl, q2]
    have c3 : gI h1 32 i = nI u := by rw [f1.i 32 i rfl, q3, eu]
    have c4 : gI h2 112 i = nI u := by rw [f2.i 112 i rfl, eu]
    have ng : ¬ (nI s ≤ nI i) := by rw [nN_le (by omega) (by omega)]; omega
    rw [e1, e2]
    simp only [ng, ib, if_true, if_false]
    rw [iN_nI (by omega), c1, f2.i 110 i rfl, show nI i + 1 = nI (i + 1) from nN_add i 1]
    by_cases g1 : gI hM 110 i = nI y
    · rw [if_pos g1, if_pos g1, c2, f2.i 111 i rfl]
      by_cases g2 : gI hM 111 i = cell
      · rw [if_pos g2, if_pos g2, c3, c4, eMin_JJ, bnd_some, eMin_JJ, bnd_some]
        dsimp only
        rw [show (10000 : Int64) * (nI u).toInt64 = (nI u).toInt64 * 10000 from Int64.mul_comm _ _]
        have := svTake (T := T) hu ⟨t0, by omega⟩
        exact ih (i + 1) n n' _ (by omega) (by omega) (by omega) this.1 (by omega)
      · rw [if_neg g2, if_neg g2]
        exact ih (i + 1) n n' T (by omega) (by omega) (by omega) t0 t1
    · rw [if_neg g1, if_neg g1]
      exact ih (i + 1) n n' T (by omega) (by omega) (by omega) t0 t1
theorem lSv {N : Nat} (hN : 10000 < N) {hS hM : MH} {s : Nat} (hK : IvS hS hM s) {h1 h2 : MH} (f1 : Fr vS hS h1) (f2 : Fr vM hM h2) (c : Nat) (hc : c < 6) (what : Int32) (Y : Nat) (hY : Y < 20) (yr : Int64) (hyr : 0 ≤ yr.toInt ∧ yr.toInt ≤ 99900)
    (hw : (gI h2 85 c).toInt64 * (if what = 0 then gI h2 86 c else gI h2 87 c).toInt64 = yr) :
    ∀ (d y n n' : Nat) (T : Int64), y + d = Y + 1 → d * (s + 3) < n → d * (s + 3) < n' → 0 ≤ T.toInt → T.toInt ≤ 99900 * y → svQ N h1 h2 ((L_Shakes_left N n).1 (nI c) (nI Y) yr T (nI y) h1) ((L_M_saved N n').1 (nI c) (nI Y) what T (nI y) h2) := by
  intro d
  induction d with
  | zero =>
    intro y n n' T hd hn hn' t0 t1
    obtain ⟨n, rfl⟩ : ∃ q, n = q + 1 := ⟨n - 1, by omega⟩
    obtain ⟨n', rfl⟩ : ∃ q, n' = q + 1 := ⟨n' - 1, by omega⟩
    show svQ N h1 h2 (F_Shakes_left_6 N (L_Shakes_left N n) (nI c) (nI Y) yr T (nI y) h1) (F_M_saved_36 N (L_M_saved N n') (nI c) (nI Y) what T (nI y) h2)
    unfold F_Shakes_left_6 F_M_saved_36
    rw [if_pos (by rw [nN_lt (by omega) (by omega)]; omega), if_pos (by rw [nN_lt (by omega) (by omega)]; omega), bnd_eta]
    exact ⟨T, rfl, rfl, t0, by omega⟩
  | succ d ih =>
    intro y n n' T hd hn hn' t0 t1
    have em : (d + 1) * (s + 3) = d * (s + 3) + (s + 3) := Nat.succ_mul d (s + 3)
    obtain ⟨n, rfl⟩ : ∃ q, n = q + 1 := ⟨n - 1, by omega⟩
    obtain ⟨n', rfl⟩ : ∃ q, n' = q + 1 := ⟨n' - 1, by omega⟩
    show svQ N h1 h2 (F_Shakes_left_6 N (L_Shakes_left N n) (nI c) (nI Y) yr T (nI y) h1) (F_M_saved_36 N (L_M_saved N n') (nI c) (nI Y) what T (nI y) h2)
    unfold F_Shakes_left_6 F_M_saved_36
    have ib : inB (nI c) 6 = true := by rw [inB_nI (by omega)]; omega
    rw [if_neg (by rw [nN_lt (by omega) (by omega)]; omega), if_neg (by rw [nN_lt (by omega) (by omega)]; omega), if_pos ib, if_pos ib, if_pos ib, iN_nI (by omega)]
    have mm : (if what = 0 then F_M_saved_78 N (L_M_saved N n') (nI c) (nI Y) what (T + (gI h2 85 c).toInt64 * (gI h2 86 c).toInt64) (nI y) 0 h2 else F_M_saved_78 N (L_M_saved N n') (nI c) (nI Y) what (T + (gI h2 85 c).toInt64 * (gI h2 87 c).toInt64) (nI y) 0 h2) = F_M_saved_78 N (L_M_saved N n') (nI c) (nI Y) what (T + yr) (nI y) 0 h2 := by
      rw [← hw]
      by_cases q : what = 0
      · rw [if_pos q, if_pos q]
      · rw [if_neg q, if_neg q]
    refine Eq.mpr (congrArg (svQ N h1 h2 _) mm) ?_
    have ea : (T + yr).toInt = T.toInt + yr.toInt := j_add (by omega) (by omega)
    exact lSvIn hK f1 f2 (nI c) what (nI Y) yr y (d * (s + 3) + 1) (99900 * (y + 1 : Nat)) (by omega) (fun T n n' a b c e => ih (y + 1) n n' T (by omega) (by omega) (by omega) a b) s 0 (n + 1) (n' + 1) (T + yr) (by omega) (by omega) (by omega) (by rw [ea]; omega) (by rw [ea]; omega)
theorem op_saved {N : Nat} (hN : 10000 < N) {hS hM : MH} (h : Inv2 hS hM) (a1 a2 a3 : Int32) : OK2 hS hM (f_S_saved N a1 a2 a3 hS) (f_M_saved N a1 a2 a3 hM) := by
  obtain ⟨G, n, m, hE, hn, hm, eG, e1, e2, e3, e4⟩ := Inv_nm h
  obtain ⟨hG, hr, hL, hR, ⟨s, hK⟩⟩ := id hE
  show OK2 hS hM (f_S_saved N a1 a2 a3 hS) (F_M_saved_0 N (L_M_saved N N) a1 a2 a3 hM)
  unfold f_S_saved F_M_saved_0 f_S_refuse f_M_refuse
  simp only [eS_isCell, eM_isCell, eS_isYear, eM_isYear, eS_isOneOf, bnd_some, bz, iteV, eG, e1, e3]
  by_cases g1 : 0 ≤ a1 ∧ a1 < nI n
  case neg =>
    simp only [g1, not_false_eq_true, if_true]
    exact OK2_st h Fr.rfl Fr.rfl _ _
  by_cases g2 : 0 ≤ a2 ∧ a2 < 20
  case neg =>
    simp only [g1, g2, and_self, not_true, not_false_eq_true, if_true, if_false]
    exact OK2_st h Fr.rfl Fr.rfl _ _
  by_cases g3 : 0 ≤ a3 ∧ a3 < 2
  case neg =>
    have g3' : ¬ (0 ≤ a3 ∧ a3 ≤ 1) := by grind
    simp only [g1, g2, g3, g3', and_self, not_true, not_false_eq_true, if_true, if_false]
    exact OK2_st h Fr.rfl Fr.rfl _ _
  have g3' : 0 ≤ a3 ∧ a3 ≤ 1 := by grind
  simp only [g1, g2, g3, g3', and_self, not_true, not_false_eq_true, if_true, if_false]
  obtain ⟨c, hc, rfl⟩ := rng (by omega) g1
  obtain ⟨Y, hY, rfl⟩ := rng (n := 20) (by omega) g2
  have ib : inB (nI c) 6 = true := by rw [inB_nI (by omega)]; omega
  obtain ⟨-, -, -, -, -, -, -, -, -, hc3⟩ := hL
  obtain ⟨p1, p2, p3, A, B, D, pA, pB, pD, qA, qB, qD⟩ := hc3 c hc
  simp only [ib, if_true]
  rw [iN_nI (by omega), p2, p3]
  have ss : (if a3 = 0 then F_S_saved_54 N (nI c) (nI Y) (gI hM 86 c) hS else F_S_saved_54 N (nI c) (nI Y) (gI hM 87 c) hS) = F_S_saved_54 N (nI c) (nI Y) (if a3 = 0 then gI hM 86 c else gI hM 87 c) hS := by split <;> rfl
  refine Eq.mpr (congrArg (fun z => OK2 hS hM z _) ss) ?_
  unfold F_S_saved_54
  rw [if_pos ib, eG, iN_nI (by omega), p1]
  dsimp only
  have yb : 0 ≤ ((gI hM 85 c).toInt64 * (if a3 = 0 then gI hM 86 c else gI hM 87 c).toInt64).toInt ∧ ((gI hM 85 c).toInt64 * (if a3 = 0 then gI hM 86 c else gI hM 87 c).toInt64).toInt ≤ 99900 := by
    have key : ∀ E, E ≤ 100 → 0 ≤ ((nI A).toInt64 * (nI E).toInt64).toInt ∧ ((nI A).toInt64 * (nI E).toInt64).toInt ≤ 99900 := by
      intro E hE
      have hm := Nat.mul_le_mul pA hE
      have e : (nI A).toInt64.toInt * (nI E).toInt64.toInt = ((A * E : Nat) : Int) := by rw [Int32.toInt_toInt64, Int32.toInt_toInt64, nN_toInt (by omega), nN_toInt (by omega), Int.natCast_mul]
      rw [j_mul (by rw [e]; omega) (by rw [e]; omega), e]
      omega
    rw [qA, qB, qD]
    split
    · exact key B pB
    · exact key D pD
  obtain ⟨v, z1, z2, z3⟩ := lSv hN hK Fr.rfl Fr.rfl c (by omega) a3 Y hY _ yb rfl (Y + 1) 0 (N + 1) (N + 1) 0 (by omega) (by
    have := Nat.mul_le_mul (show Y + 1 ≤ 20 by omega) (show s + 3 ≤ 33 by have := hK.1; omega)
    omega) (by
    have := Nat.mul_le_mul (show Y + 1 ≤ 20 by omega) (show s + 3 ≤ 33 by have := hK.1; omega)
    omega) (by decide) (by show (0 : Int) ≤ _; omega)
  have z1' : f_Shakes_left N (nI c) (nI Y) ((gI hM 85 c).toInt64 * (if a3 = 0 then gI hM 86 c else gI hM 87 c).toInt64) hS = some (v, hS) := z1
  have z2' : F_M_saved_36 N (L_M_saved N N) (nI c) (nI Y) a3 0 0 hM = f_M_fraction N v 10000 hM := z2
  rw [z1', bnd_some, z2', bnd_eta]
  obtain ⟨v0, v1⟩ := z3
  exact OK2_fr (N := N) (by omega) h Fr.rfl Fr.rfl (t := v) (d := 10000) (by omega) (by decide)
/-- a byte on the tape -/
theorem IvP_push {hS hM : MH} {t : Nat} (h : IvP hS hM t) (ht : t < 600) {b : Int32} (hb : -128 ≤ b.toInt ∧ b.toInt ≤ 127) : IvP (sI (sI hS 4 t b) 3 1 (nI (t + 1))) (sI (sI hM 72 t b) 68 8 (nI (t + 1))) (t + 1) := by
  obtain ⟨p1, p2, p3, p4⟩ := h
  refine ⟨by omega, rfl, rfl, fun k hk => ?_⟩
  by_cases q : k = t
  · subst q
    have a1 : gI (sI (sI hS 4 k b) 3 1 (nI (k + 1))) 4 k = b := by simp [gI_sI]
    have a2 : gI (sI (sI hM 72 k b) 68 8 (nI (k + 1))) 72 k = b := by simp [gI_sI]
    rw [a1, a2]; exact ⟨rfl, hb⟩
  · have := p4 k (by omega)
    simpa [gI_sI, q] using this
def wPS (c k : Nat) : Bool := c == 4 || (c == 3 && k == 1)
def wPM (c k : Nat) : Bool := c == 72 || (c == 68 && k == 8)
theorem by_bd (x : Int32) : -128 ≤ x.toInt8.toInt32.toInt8.toInt32.toInt ∧ x.toInt8.toInt32.toInt8.toInt32.toInt ≤ 127 := by
  rw [Int8.toInt_toInt32]
  have h1 := x.toInt8.toInt32.toInt8.toInt_lt
  have h2 := x.toInt8.toInt32.toInt8.le_toInt
  omega
theorem appStep {N : Nat} {hS hM : MH} {t : Nat} (h : IvP hS hM t) (ht : t < 600) (a sh : Int32) (h0 : ¬ sh < 0) (n n' : Nat) : ∃ hS' hM', L_Reader_append N (n + 1) a sh hS = L_Reader_append N n a (sh + -8) hS' ∧ L_M_four N (n' + 1) a sh hM = L_M_four N n' a (sh + -8) hM' ∧ IvP hS' hM' (t + 1) ∧ Fr wPS hS hS' ∧ Fr wPM hM hM' := by
  have h' := h
  obtain ⟨p1, p2, p3, p4⟩ := h'
  refine ⟨_, _, ?_, ?_, IvP_push h ht (by_bd (a >>> (sh &&& 31))), (Fr.rfl.sI 4 t _ (by simp [wPS])).sI 3 1 _ rfl, (Fr.rfl.sI 72 t _ (by simp [wPM])).sI 68 8 _ rfl⟩
  · show F_Reader_append_3 N (L_Reader_append N n) a sh hS = _
    unfold F_Reader_append_3
    rw [if_neg h0, p2, if_neg (by rw [show (600 : Int32) = nI 600 from rfl, nN_le (by omega) (by omega)]; omega), if_pos (by rw [inB_nI (by omega)]; omega), iN_nI (by omega)]
    have : gI (sI hS 4 t ((a >>> (sh &&& 31)).toInt8.toInt32).toInt8.toInt32) 3 1 = nI t := p2
    dsimp only
    rw [this, show nI t + 1 = nI (t + 1) from nN_add t 1]
  · show F_M_four_3 N (L_M_four N n') a sh hM = _
    unfold F_M_four_3
    rw [if_neg h0, p3, if_pos (by rw [inB_nI (by omega)]; omega), iN_nI (by omega)]
    have : gI (sI hM 72 t ((a >>> (sh &&& 31)).toInt8.toInt32).toInt8.toInt32) 68 8 = nI t := p3
    dsimp only
    rw [this, show nI t + 1 = nI (t + 1) from nN_add t 1]
theorem eAppend {N : Nat} (hN : 100 < N) {hS hM : MH} {t : Nat} (h : IvP hS hM t) (ht : t + 4 ≤ 600) (a : Int32) : ∃ hS' hM', f_Reader_append N a hS = some hS' ∧ f_M_four N a hM = some hM' ∧ IvP hS' hM' (t + 4) ∧ Fr wPS hS hS' ∧ Fr wPM hM hM' := by
  obtain ⟨M, rfl⟩ : ∃ M, N = M + 4 := ⟨N - 4, by omega⟩
  obtain ⟨x1, y1, a1, b1, c1, d1, e1⟩ := appStep (N := M + 4) h (by omega) a 24 (by decide) (M + 4) (M + 4)
  obtain ⟨x2, y2, a2, b2, c2, d2, e2⟩ := appStep (N := M + 4) c1 (by omega) a 16 (by decide) (M + 3) (M + 3)
  obtain ⟨x3, y3, a3, b3, c3, d3, e3⟩ := appStep (N := M + 4) c2 (by omega) a 8 (by decide) (M + 2) (M + 2)
  obtain ⟨x4, y4, a4, b4, c4, d4, e4⟩ := appStep (N := M + 4) c3 (by omega) a 0 (by decide) (M + 1) (M + 1)
  refine ⟨x4, y4, ?_, ?_, c4, ((d1.trans d2).trans d3).trans d4, ((e1.trans e2).trans e3).trans e4⟩
  · show L_Reader_append (M + 4) (M + 4 + 1) a 24 hS = _
    rw [a1, show (24 : Int32) + -8 = 16 by decide, a2, show (16 : Int32) + -8 = 8 by decide, a3, show (8 : Int32) + -8 = 0 by decide, a4]
    show F_Reader_append_3 (M + 4) (L_Reader_append (M + 4) M) a (0 + -8) x4 = _
    unfold F_Reader_append_3
    rw [if_pos (by decide)]
  · show L_M_four (M + 4) (M + 4 + 1) a 24 hM = _
    rw [b1, show (24 : Int32) + -8 = 16 by decide, b2, show (16 : Int32) + -8 = 8 by decide, b3, show (8 : Int32) + -8 = 0 by decide, b4]
    show F_M_four_3 (M + 4) (L_M_four (M + 4) M) a (0 + -8) y4 = _
    unfold F_M_four_3
    rw [if_pos (by decide)]
theorem Inv_P {hS hM hS' hM' : MH} (h : Inv2 hS hM) (fS : Fr wPS hS hS') (fM : Fr wPM hM hM') {p : Nat} (hp : IvP hS' hM' p) : Inv2 hS' hM' := by
  obtain ⟨hA, ⟨G, n, m, hE⟩, ⟨t0, t1, t2, t3⟩, -, ⟨f, hF⟩, hW⟩ := h
  have all : ∀ u, u < 4 → IvT hS hM u → IvT hS' hM' u := fun u hu hh => IvT_fr hh fS fM (fun c k q => by simp [kTS, wPS] at q ⊢; omega) (fun c k q => by simp [kTM, wPM] at q ⊢; omega)
  refine ⟨IvA_fr hA fS fM (fun c k q => by simp [kAS, wPS] at q ⊢; omega) (fun c k q => by simp [kAM, wPM] at q ⊢; omega), ⟨G, n, m, IvE_fr hE fS fM (fun c k q => ?_) (fun c k q => by simp [kEM, kLM, kRM, kKM, wPM] at q ⊢; omega)⟩, ⟨all 0 (by omega) t0, all 1 (by omega) t1, all 2 (by omega) t2, all 3 (by omega) t3⟩, ⟨p, hp⟩, ⟨f, IvF_fr hF fS fM (fun c k q => by simp [kFS, wPS] at q ⊢; omega) (fun c k q => by simp [kFM, wPM] at q ⊢; omega)⟩, IvW_fr hW fS (fun k => by simp [wPS]) (fun k _ => by simp [wPS])⟩
  rcases hE.1 with ⟨rfl, -⟩ | ⟨rfl, -⟩
  · simp [kES, kLS, kRS, kKS, wPS] at q ⊢; omega
  · simp [kES, kLS, kRS, kKS, wPS] at q ⊢; omega
theorem op_feed {N : Nat} (hN : 100 < N) {hS hM : MH} (h : Inv2 hS hM) (a1 a2 a3 a4 a5 : Int32) : OK2 hS hM (f_S_feed N a1 a2 a3 a4 a5 hS) (f_M_feed N a1 a2 a3 a4 a5 hM) := by
  obtain ⟨t, hP⟩ := h.2.2.2.1
  have hP' := hP
  obtain ⟨p1, p2, p3, p4⟩ := hP'
  unfold f_S_feed f_M_feed f_Reader_hasRoom
  rw [p2, p3, show nI t + 20 = nI (t + 20) from nN_add t 20]
  have e1 : (580 < nI t) = (580 < t) := nN_lt (a := 580) (by omega) (by omega)
  have e2 : (nI (t + 20) ≤ 600) = (t + 20 ≤ 600) := nN_le (b := 600) (by omega) (by omega)
  simp only [e1, e2]
  by_cases g : 580 < t
  · rw [if_pos g, bnd_some, if_pos rfl, if_neg (by omega)]
    exact OK2_id h _
  · rw [if_neg g, bnd_some, if_neg (show ¬ ((1 : Int32) = 0) by decide), if_pos (by omega)]
    dsimp only
    obtain ⟨x1, y1, c1, d1, i1, u1, w1⟩ := eAppend (N := N) hN hP (by omega) a1
    obtain ⟨x2, y2, c2, d2, i2, u2, w2⟩ := eAppend (N := N) hN i1 (by omega) a2
    obtain ⟨x3, y3, c3, d3, i3, u3, w3⟩ := eAppend (N := N) hN i2 (by omega) a3
    obtain ⟨x4, y4, c4, d4, i4, u4, w4⟩ := eAppend (N := N) hN i3 (by omega) a4
    obtain ⟨x5, y5, c5, d5, i5, u5, w5⟩ := eAppend (N := N) hN i4 (by omega) a5
    rw [c1, bnd_some, c2, bnd_some, c3, bnd_some, c4, bnd_some, c5, bnd_some, d1, bnd_some, d2, bnd_some, d3, bnd_some, d4, bnd_some, d5, bnd_some]
    have uS := (((u1.trans u2).trans u3).trans u4).trans u5
    have wM' := (((w1.trans w2).trans w3).trans w4).trans w5
    refine ⟨gI x5 3 1, x5, y5, rfl, by rw [i5.2.1, i5.2.2.1], Inv_P h uS wM' i5, uS.mono (fun c k q => ?_), wM'.mono (fun c k q => ?_)⟩
    · simp [wS] at q; simp [wPS]; omega
    · simp [wM] at q; simp [wPM]; omega
