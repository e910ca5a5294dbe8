/-! BREAKS AND SLOW SLIPS -/
theorem fit_0 {hM : MH} {mk : Int32} : (ft hM mk 0 0).1 = 0 := rfl
theorem lBreaks {N : Nat} (hN : 1000 < N) {hS hM : MH} (hI : Inv2 hS hM) {m r o : Nat} (hR : IvR hS hM m r o) (mk : Int32) : ∀ (n n' y : Nat) (h1 h2 : MH) (b : Int32) (v : Int64), 1 ≤ y → y ≤ 20 → 20 - y < n → 20 - y < n' → GV hM mk h1 → Fr vS hS h1 → Fr vM hM h2 → (b = -1 ∨ 0 ≤ b) →
    ∃ b' k1 k2, L_Ledger_breakYear N n b v (nI y) h1 = some (b', k1) ∧ Fr vS hS k1 ∧ Fr vM hM k2 ∧ ((b' = -1 ∧ L_M_breaks N n' mk b v (nI y) h2 = some (-1, sI k2 68 0 6)) ∨ (0 ≤ b' ∧ L_M_breaks N n' mk b v (nI y) h2 = some (b', sI k2 68 0 0))) := by
  intro n
  induction n with
  | zero => intro n' y h1 h2 b v _ _ h; omega
  | succ n ih =>
    intro n' y h1 h2 b v y1 y20 hn hn' gv f1 f2 hb
    obtain ⟨n', rfl⟩ : ∃ q, n' = q + 1 := ⟨n' - 1, by omega⟩
    show ∃ b' k1 k2, F_Ledger_breakYear_7 N (L_Ledger_breakYear N n) b v (nI y) h1 = some (b', k1) ∧ Fr vS hS k1 ∧ Fr vM hM k2 ∧ ((b' = -1 ∧ F_M_breaks_21 N (L_M_breaks N n') mk b v (nI y) h2 = some (-1, sI k2 68 0 6)) ∨ (0 ≤ b' ∧ F_M_breaks_21 N (L_M_breaks N n') mk b v (nI y) h2 = some (b', sI k2 68 0 0)))
    unfold F_Ledger_breakYear_7 F_M_breaks_21 f_M_refuse f_M_gives
    have e20 : (20 ≤ nI y) = (20 ≤ y) := nN_le (a := 20) (by omega) (by omega)
    simp only [e20, bnd_some]
    by_cases g : 20 ≤ y
    · rw [if_pos g, if_pos g]
      refine ⟨b, h1, h2, rfl, f1, f2, ?_⟩
      rcases hb with q | q
      · left; rw [q]; exact ⟨rfl, rfl⟩
      · right; refine ⟨q, ?_⟩
        rw [if_neg (by intro z; rw [z] at q; revert q; decide)]
    · rw [if_neg g, if_neg g]
      have em : nI y - 1 = nI y + -1 := by grind
      rw [em]
      obtain ⟨x1, a1, a2, a3⟩ := eS_fit (N := N) (by omega) (hM := hM) (h := h1) (mk := mk) (a := 0) (e := y) (by omega) (by omega) gv
      obtain ⟨z1, b1, b2, b3⟩ := eM_fit (N := N) (by omega) hR mk (a := 0) (e := y) (by omega) (by omega) f2
      have a1' : f_Ledger_fit N 0 (nI y + -1) h1 = some x1 := a1
      have b1' : f_M_fit N mk 0 (nI y + -1) h2 = some z1 := b1
      rw [a1', b1', bnd_some, bnd_some]
      have tf := ft_ok hR mk (a := 0) (l := y - 0) (by omega)
      generalize ft hM mk 0 (y - 0) = t at a2 b2 tf
      obtain ⟨w1, c1, c2⟩ := eL_wholeRest (N := N) a2
      simp only [eL_stands a2, bnd_some, c1]
      obtain ⟨x2, d1, d2, d3⟩ := eS_fit (N := N) (by omega) (hM := hM) (h := x1) (mk := mk) (a := y) (e := 20) (by omega) (by omega) (GV_fr gv a3)
      have e19 : (19 : Int32) = nI 20 + -1 := by decide
      rw [e19, d1, bnd_some]
      obtain ⟨w2, p1, p2⟩ := eL_wholeRest (N := N) d2
      simp only [p1, bnd_some, eL_stands d2, bz]
      have fz1 : Fr vM hM z1 := f2.trans (b3.mono (fun _ _ => w6_v))
      have gx2 := GV_fr (GV_fr gv a3) d3
      have fx2 : Fr vS hS x2 := (f1.trans (a3.mono (fun _ _ => wL_v))).trans (d3.mono (fun _ _ => wL_v))
      simp only [cmp_ge, b2.1]
      have ys : nI y + 1 = nI (y + 1) := nN_add y 1
      rw [ys]
      by_cases g6 : 2 ≤ t.1
      case neg =>
        rw [if_pos g6, if_neg g6]
        exact ih n' (y + 1) x2 z1 b v (by omega) (by omega) (by omega) (by omega) gx2 fx2 fz1 hb
      rw [if_neg (by simp [g6]), if_pos g6]
      obtain ⟨wp, bp⟩ := tW_pos tf g6
      have bp' : 0 < tB t := by rw [Int64.lt_iff_toInt_lt]; exact bp
      have bn : ¬ t.1 * tW t = 0 := by
        intro z
        rw [show t.1 * tW t = tB t from rfl] at z
        rw [z] at bp; revert bp; decide
      rw [eM_rest b2, bnd_some, eM_wide b2, bnd_some]
      rw [b2.1, if_neg bn]
      obtain ⟨z2, q1, q2, q3⟩ := eM_fit (N := N) (by omega) hR mk (a := y) (e := 20) (by omega) (by omega) fz1
      rw [q1, bnd_some]
      have tf2 := ft_ok hR mk (a := y) (l := 20 - y) (by omega)
      generalize ft hM mk y (20 - y) = t2 at d2 q2 tf2 p2
      have fz2 : Fr vM hM z2 := fz1.trans (q3.mono (fun _ _ => w6_v))
      simp only [q2.1]
      by_cases g7 : 2 ≤ t2.1
      case neg =>
        rw [if_pos g7, if_neg g7]
        exact ih n' (y + 1) x2 z2 b v (by omega) (by omega) (by omega) (by omega) gx2 fx2 fz2 hb
      rw [if_neg (by simp [g7]), if_pos g7]
      obtain ⟨wp2, bp2⟩ := tW_pos tf2 g7
      have bp2' : 0 < tB t2 := by rw [Int64.lt_iff_toInt_lt]; exact bp2
      have bn2 : ¬ t2.1 * tW t2 = 0 := by
        intro z
        rw [show t2.1 * tW t2 = tB t2 from rfl] at z
        rw [z] at bp2; revert bp2; decide
      rw [eM_rest q2, bnd_some, eM_wide q2, bnd_some]
      rw [q2.1, if_neg bn2, c2 bp', p2 bp2']
      rw [show t.1 * tW t = tB t from rfl, show t2.1 * tW t2 = tB t2 from rfl]
      have yy : (0 : Int32) ≤ nI y := by rw [L0, nN_le (by omega) (by omega)]; omega
      rcases hb with q | q
      · rw [q, if_pos (show (-1 : Int32) < 0 by decide), if_pos rfl]
        exact ih n' (y + 1) x2 z2 (nI y) _ (by omega) (by omega) (by omega) (by omega) gx2 fx2 fz2 (.inr yy)
      · rw [if_neg (show ¬ b < 0 from Int32.not_lt.mpr q), if_neg (show ¬ b = -1 by intro z; rw [z] at q; revert q; decide)]
        simp only [cmp_lt]
        by_cases g8 : v ≤ tR t / tB t + tR t2 / tB t2
        · rw [if_pos g8, if_neg (Int64.not_lt.mpr g8)]
          exact ih n' (y + 1) x2 z2 b v (by omega) (by omega) (by omega) (by omega) gx2 fx2 fz2 (.inr q)
        · rw [if_neg g8, if_pos (Int64.not_le.mp g8)]
          exact ih n' (y + 1) x2 z2 (nI y) _ (by omega) (by omega) (by omega) (by omega) gx2 fx2 fz2 (.inr yy)
theorem op_breaks {N : Nat} (hN : 1000 < N) {hS hM : MH} (h : Inv2 hS hM) (a1 : Int32) : OK2 hS hM (f_S_breaks N a1 hS) (f_M_breaks N a1 hM) := by
  obtain ⟨G, n, m, hE, hn, hm, eG, e1, e2, e3, e4⟩ := Inv_nm h
  obtain ⟨m', r, o, hR, hA⟩ := Inv_RA h
  show OK2 hS hM (f_S_breaks N a1 hS) (F_M_breaks_0 N (L_M_breaks N N) a1 hM)
  unfold f_S_breaks F_M_breaks_0 f_S_refuse f_M_refuse f_S_answer
  simp only [eS_isMark, eM_isMark, bnd_some, bz, eG, e2, e4]
  by_cases g1 : 0 ≤ a1 ∧ a1 < nI m
  case neg =>
    simp only [g1, not_false_eq_true, if_true]
    exact OK2_st h Fr.rfl Fr.rfl _ _
  rw [if_neg (by simp [g1]), if_neg (by simp [g1])]
  obtain ⟨x1, b1, b2, b3⟩ := eGather (N := N) hN hR hA a1
  rw [b1, bnd_some]
  have fx1 : Fr vS hS x1 := b2.mono (fun _ _ => wG_v)
  -- the class's first year: nothing lies ahead of it
  obtain ⟨M, hM'⟩ : ∃ M, N = M + 1 := ⟨N - 1, by omega⟩
  obtain ⟨x2, c1, c2, c3⟩ := eS_fit (N := N) (by omega) (hM := hM) (h := x1) (mk := a1) (a := 0) (e := 0) (by omega) (by omega) b3
  obtain ⟨w1, p1, -⟩ := eL_wholeRest (N := N) c2
  obtain ⟨x3, d1, d2, d3⟩ := eS_fit (N := N) (by omega) (hM := hM) (h := x2) (mk := a1) (a := 0) (e := 20) (by omega) (by omega) (GV_fr b3 c3)
  obtain ⟨w2, p2, -⟩ := eL_wholeRest (N := N) d2
  have fx3 : Fr vS hS x3 := (fx1.trans (c3.mono (fun _ _ => wL_v))).trans (d3.mono (fun _ _ => wL_v))
  have hbig : f_Ledger_breakYear N x1 = L_Ledger_breakYear N N (-1) 0 (nI 1) x3 := by
    show F_Ledger_breakYear_7 N (L_Ledger_breakYear N N) (-1) 0 0 x1 = _
    unfold F_Ledger_breakYear_7
    have c1' : f_Ledger_fit N 0 (0 - 1) x1 = some x2 := c1
    have d1' : f_Ledger_fit N 0 19 x2 = some x3 := d1
    rw [if_neg (by decide), c1', bnd_some]
    simp only [eL_stands c2, p1, bnd_some]
    rw [d1', bnd_some]
    simp only [p2, bnd_some]
    have s0 : ¬ ((2 : Int64) ≤ (ft hM a1 0 (0 - 0)).1) := by show ¬ ((2 : Int64) ≤ 0); decide
    rw [if_pos]
    · rfl
    · rw [if_neg s0]
  rw [hbig]
  obtain ⟨b', k1, k2, r1, r2, r3, r4⟩ := lBreaks hN h hR a1 N (N + 1) 1 x3 hM (-1) 0 (by omega) (by omega) (by omega) (by omega) (GV_fr (GV_fr b3 c3) d3) fx3 Fr.rfl (.inl rfl)
  rw [r1, bnd_some]
  rcases r4 with ⟨q1, q2⟩ | ⟨q1, q2⟩
  · have q2' : F_M_breaks_21 N (L_M_breaks N N) a1 (-1) 0 1 hM = some (-1, sI k2 68 0 6) := q2
    rw [q2', if_neg (by show ¬ (0 ≤ b'); rw [q1]; decide), q1]
    exact OK2_st h r2 r3 _ _
  · have q2' : F_M_breaks_21 N (L_M_breaks N N) a1 (-1) 0 1 hM = some (b', sI k2 68 0 0) := q2
    rw [q2', if_pos q1]
    exact OK2_st h r2 r3 _ _
def sAb (t : T6) (y : Nat) (v : Int32) : Int64 := v.toInt64 * tB t - tW t * t.2.2.1 - tS t * (t.1 * (nI y).toInt64 - t.2.1)
def sdv (t : T6) (y : Nat) (q : Int32 × Int32) : Int32 := if q.2.toInt64 * tB t < sAb t y q.1 then 1 else if sAb t y q.1 < -(q.2.toInt64 * tB t) then -1 else 0
theorem eL_scaled {N : Nat} {h : MH} {t : T6} (l : LnS h t) (x : Int64) : f_Line_scaled N x h = some (x * tB t, h) := by
  unfold f_Line_scaled
  simp only [eL_restBottom l, bnd_some]
theorem eL_scaledAbove {N : Nat} {h : MH} {t : T6} (l : LnS h t) (y : Nat) (v : Int32) : f_Line_scaledAbove N (nI y).toInt64 v.toInt64 h = some (sAb t y v, h) := by
  unfold f_Line_scaledAbove sAb
  simp only [eL_scaled l, eL_spread l, eL_tilt l, bnd_some]
  rw [l.1, l.2.1, l.2.2.1]
theorem eS_sideOf {N : Nat} {hM h : MH} {mk : Int32} {t : T6} (l : LnS h t) (gv : GV hM mk h) {y : Nat} (hy : y < 20) {q : Int32 × Int32} (e : VV hM mk (nI y) = some q) : f_Ledger_sideOf N (nI y) h = some (sdv t y q, h) := by
  have g := gv y hy
  rw [e] at g
  simp only at g
  unfold f_Ledger_sideOf
  have e20 : nI y < 20 := by rw [show (nI y < 20) = (y < 20) from nN_lt (b := 20) (by omega) (by omega)]; exact hy
  have ib : inB (nI y) 20 = true := by rw [inB_nI (by omega)]; exact hy
  rw [if_pos e20, if_pos ib, iN_nI (by omega), g.2.1, eL_scaledAbove l, bnd_some, if_pos ib]
  dsimp only
  rw [g.2.2, eL_scaled l, bnd_some]
  dsimp only
  simp only [cmp_le, cmp_ge]
  unfold sdv
  by_cases c1 : sAb t y q.1 ≤ q.2.toInt64 * tB t
  · rw [if_pos c1, if_neg (Int64.not_lt.mpr c1)]
    by_cases c2 : -(q.2.toInt64 * tB t) ≤ sAb t y q.1
    · rw [if_pos c2, if_neg (Int64.not_lt.mpr c2)]
    · rw [if_neg c2, if_pos (Int64.not_le.mp c2)]
  · rw [if_neg c1, if_pos (Int64.not_le.mp c1)]
theorem eS_sideOf20 {N : Nat} {h : MH} : f_Ledger_sideOf N (nI 20) h = some (0, h) := by
  unfold f_Ledger_sideOf
  rw [if_neg (by decide)]
theorem sAb_bd {t : T6} {z : Nat} (tf : TF t z) {y : Nat} (hy : y < 20) {v : Int32} (hv : v.toInt.natAbs ≤ 42000) : (sAb t y v).toInt.natAbs ≤ 2000000000000 := by
  have w := (tW_i tf).2
  have s := tS_i tf
  have b := tB_i tf
  obtain ⟨⟨b1, b2, b3, b4, b5, b6⟩, c1, c2, c3⟩ := tf
  have bb : (tB t).toInt.natAbs ≤ 20 * 288800 := by rw [b]; exact nb b1 w
  have V : v.toInt64.toInt.natAbs ≤ 42000 := by rw [Int32.toInt_toInt64]; exact hv
  have one : (1 : Int64).toInt.natAbs ≤ 1 := by decide
  have X : (nI y).toInt64.toInt.natAbs ≤ 19 := by rw [Int32.toInt_toInt64, nN_toInt (by omega)]; omega
  have d1 := (dif64 V bb w b3 (by decide)).2
  have d2 := (dif64 b1 X b2 one (by decide)).2
  have e2 : t.1 * (nI y).toInt64 - t.2.1 * 1 = t.1 * (nI y).toInt64 - t.2.1 := by grind
  rw [e2] at d2
  have d3 := (dif64 d1 one s d2 (by decide)).2
  have e3 : (v.toInt64 * tB t - tW t * t.2.2.1) * 1 - tS t * (t.1 * (nI y).toInt64 - t.2.1) = sAb t y v := by unfold sAb; grind
  rw [e3] at d3
  exact Nat.le_trans d3 (by decide)
theorem sp_bd {t : T6} {z : Nat} (tf : TF t z) {s : Nat} (hs : s ≤ 200) : ((nI s).toInt64 * tB t).toInt.natAbs ≤ 2000000000000 := by
  have w := (tW_i tf).2
  have b := tB_i tf
  obtain ⟨⟨b1, b2, b3, b4, b5, b6⟩, c1, c2, c3⟩ := tf
  have bb : (tB t).toInt.natAbs ≤ 20 * 288800 := by rw [b]; exact nb b1 w
  have X : (nI s).toInt64.toInt.natAbs ≤ 200 := by rw [Int32.toInt_toInt64, nN_toInt (by omega)]; omega
  rw [jmul_n X bb (by decide)]
  exact Nat.le_trans (nb X bb) (by decide)
theorem neg_flip {x y : Int64} (hx : x.toInt.natAbs ≤ 2000000000000) (hy : y.toInt.natAbs ≤ 2000000000000) : (x < -y) = (y < -x) := by
  have e1 : (-y).toInt = -y.toInt := by rw [Int64.toInt_neg, bm64 (by omega) (by omega)]
  have e2 : (-x).toInt = -x.toInt := by rw [Int64.toInt_neg, bm64 (by omega) (by omega)]
  rw [Int64.lt_iff_toInt_lt, Int64.lt_iff_toInt_lt, e1, e2]
  exact propext (by omega)
theorem eM_sideOf {N : Nat} (hN : 200 < N) {hS hM h : MH} {m r o : Nat} (hR : IvR hS hM m r o) {mk : Int32} {t : T6} {z : Nat} (tf : TF t z) (l : LnM h t) {y : Nat} (hy : y < 20) {q : Int32 × Int32} (e : VV hM mk (nI y) = some q) {k : Nat} (hk : k < 160) (k1 : f_M_valueOf N (nI k) h = some (q.1, h)) (k2 : gI h 98 k = q.2) (k3 : gI h 96 k = nI y) : f_M_sideOf N (nI k) h = some (sdv t y q, h) := by
  obtain ⟨v1, s, hs, es⟩ := VV_bd hR e
  unfold f_M_sideOf
  have ib : inB (nI k) 160 = true := by rw [inB_nI (by omega)]; exact hk
  rw [k1, bnd_some]
  dsimp only
  rw [eM_wide l, bnd_some]
  dsimp only
  rw [eM_steep l, bnd_some]
  dsimp only
  rw [if_pos ib, if_pos ib, eM_wide l, bnd_some]
  dsimp only
  rw [iN_nI (by omega), k2, k3]
  simp only [cmp_le]
  rw [l.1, l.2.1, l.2.2.1]
  have r1 : (q.1.toInt64 * t.1 - t.2.2.1) * tW t - tS t * (t.1 * (nI y).toInt64 - t.2.1) = sAb t y q.1 := by unfold sAb tB; grind
  have r2 : q.2.toInt64 * t.1 * tW t = q.2.toInt64 * tB t := by unfold tB; grind
  rw [r1, r2]
  unfold sdv
  have n1 := neg_flip (sAb_bd tf hy v1) (sp_bd tf hs)
  rw [← es] at n1
  simp only [n1]
  by_cases c1 : sAb t y q.1 ≤ q.2.toInt64 * tB t
  · rw [if_pos c1, if_neg (Int64.not_lt.mpr c1)]
    by_cases c2 : -sAb t y q.1 ≤ q.2.toInt64 * tB t
    · rw [if_pos c2, if_neg (Int64.not_lt.mpr c2)]
    · rw [if_neg c2, if_pos (Int64.not_le.mp c2)]
  · rw [if_neg c1, if_pos (Int64.not_le.mp c1)]
theorem sdv_3 (t : T6) (y : Nat) (q : Int32 × Int32) : sdv t y q = 0 ∨ sdv t y q = 1 ∨ sdv t y q = -1 := by
  unfold sdv
  split
  · exact .inr (.inl rfl)
  · split
    · exact .inr (.inr rfl)
    · exact .inl rfl
/-- what both loops keep of a run -/
def SR (k fS sS lS bS eS fM sM bM eM lM : Int32) : Prop := fM = k - fS ∧ sS = sM ∧ (sM = 0 ∨ sM = 1 ∨ sM = -1) ∧ (sM ≠ 0 → lS = lM ∧ bS = bM ∧ eS = eM ∧ (∃ y, y < 100 ∧ bS = nI y) ∧ ∃ y, y < 100 ∧ eS = nI y)
/-- one year's side, taken in by both loops -/
theorem slowStep {N : Nat} {a1 much k what : Int32} {fS sS lS bS eS fM sM bM eM lM now : Int32} {y : Nat} (hy : y < 21) (hn : now = 0 ∨ now = 1 ∨ now = -1) (sr : SR k fS sS lS bS eS fM sM bM eM lM) {n n' : Nat} {h1 h2 hS hM : MH} (f1 : Fr vS hS h1) (f2 : Fr vM hM h2) (side : f_Ledger_sideOf N (nI y) h1 = some (now, h1)) (hw : 0 ≤ what ∧ what < 3)
    (ih : ∀ fS sS lS bS eS fM sM bM eM lM, SR k fS sS lS bS eS fM sM bM eM lM → ∃ v k1 k2, L_Ledger_slowSlip N n much k what fS sS lS bS eS (nI (y + 1)) h1 = some (v, k1) ∧ Fr vS hS k1 ∧ Fr vM hM k2 ∧ ((v = -1 ∧ L_M_slow N n' a1 much what fM sM bM eM lM (nI (y + 1)) h2 = some (-1, sI k2 68 0 6)) ∨ (0 ≤ v ∧ L_M_slow N n' a1 much what fM sM bM eM lM (nI (y + 1)) h2 = some (v, sI k2 68 0 0)))) :
    ∃ v k1 k2, F_Ledger_slowSlip_62 N (L_Ledger_slowSlip N n) much k what fS sS lS bS eS (nI y) h1 = some (v, k1) ∧ Fr vS hS k1 ∧ Fr vM hM k2 ∧ ((v = -1 ∧ F_M_slow_143 N (L_M_slow N n') a1 much what fM sM bM eM lM (nI y) now h2 = some (-1, sI k2 68 0 6)) ∨ (0 ≤ v ∧ F_M_slow_143 N (L_M_slow N n') a1 much what fM sM bM eM lM (nI y) now h2 = some (v, sI k2 68 0 0))) := by
  obtain ⟨r1, r2, r3, r4⟩ := sr
  subst r2
  have ys : nI y + 1 = nI (y + 1) := nN_add y 1
  have o1 : (0 : Int32) + 1 = 1 := by decide
  have fresh : ∀ f, SR k f now (0 + 1) (nI y) (nI y) (k - f) now (nI y) (nI y) 1 := fun f => ⟨rfl, rfl, hn, fun _ => ⟨o1, rfl, rfl, ⟨y, by omega, rfl⟩, ⟨y, by omega, rfl⟩⟩⟩
  unfold F_Ledger_slowSlip_62 F_M_slow_143
  rw [side, bnd_some]
  simp only
  by_cases c0 : now = sS
  · rw [if_pos c0]
    by_cases c1 : now = 0
    · rw [if_pos c1]
      unfold F_M_slow_167 F_M_slow_223
      rw [if_pos (by rw [← c0]; exact c1)]
      simp only [ys]
      refine ih _ _ _ _ _ _ _ _ _ _ ⟨r1, c0.symm, hn, fun z => absurd c1 z⟩
    · rw [if_neg c1, if_pos c0]
      simp only [ys]
      obtain ⟨q1, q2, q3, q4, q5⟩ := r4 (by rw [← c0]; exact c1)
      exact ih _ _ _ _ _ _ _ _ _ _ ⟨r1, rfl, r3, fun _ => ⟨by rw [q1], q2, rfl, q4, ⟨y, by omega, rfl⟩⟩⟩
  · rw [if_neg c0]
    have em : (if now = 0 then F_M_slow_167 N (L_M_slow N n') a1 much what fM sS bM eM lM (nI y) now h2 else if now = sS then L_M_slow N n' a1 much what fM sS bM (nI y) (lM + 1) (nI y + 1) h2 else F_M_slow_167 N (L_M_slow N n') a1 much what fM sS bM eM lM (nI y) now h2) = F_M_slow_167 N (L_M_slow N n') a1 much what fM sS bM eM lM (nI y) now h2 := by
      rw [if_neg c0]; split <;> rfl
    rw [em]
    unfold F_M_slow_167 F_M_slow_223 F_Ledger_slowSlip_94 F_Ledger_slowSlip_131 f_M_gives
    simp only [ys, bnd_some]
    have z0 : fS + 0 = fS := by grind
    by_cases c2 : sS = 0
    · rw [if_pos c2, if_pos c2, if_pos trivial, if_pos trivial, r1, z0]
      exact ih _ _ _ _ _ _ _ _ _ _ (fresh fS)
    · rw [if_neg c2, if_neg c2]
      obtain ⟨q1, q2, q3, ⟨yb, yb1, yb2⟩, ⟨ye, ye1, ye2⟩⟩ := r4 c2
      rw [q1]
      by_cases c3 : lM < much
      · rw [if_pos c3, if_pos c3, if_pos trivial, if_pos trivial, r1, z0]
        exact ih _ _ _ _ _ _ _ _ _ _ (fresh fS)
      · rw [if_neg c3, if_neg c3, if_neg (show ¬ ((1 : Int32) = 0) by decide)]
        by_cases c4 : fS = k
        · rw [if_pos c4, if_pos (show fM = 0 by rw [r1]; grind)]
          unfold f_Ledger_toldOfSlow
          have nn : ∀ y, y < 100 → (0 : Int32) ≤ nI y := fun y hy => by rw [L0, nN_le (by omega) (by omega)]; omega
          by_cases c5 : what = 0
          · rw [if_pos c5, if_pos c5]
            exact ⟨bS, h1, h2, rfl, f1, f2, .inr ⟨by rw [yb2]; exact nn yb yb1, by rw [q2]⟩⟩
          · rw [if_neg c5, if_neg c5]
            by_cases c6 : what = 1
            · rw [if_pos c6, if_pos c6]
              exact ⟨eS, h1, h2, rfl, f1, f2, .inr ⟨by rw [ye2]; exact nn ye ye1, by rw [q3]⟩⟩
            · rw [if_neg c6, if_neg c6]
              rcases r3 with q | q | q
              · exact absurd q c2
              · rw [q, if_neg (by decide), if_pos rfl]
                exact ⟨1, h1, h2, rfl, f1, f2, .inr ⟨by decide, rfl⟩⟩
              · rw [q, if_pos (by decide), if_neg (by decide)]
                exact ⟨0, h1, h2, rfl, f1, f2, .inr ⟨by decide, rfl⟩⟩
        · rw [if_neg c4, if_neg (show ¬ ((1 : Int32) = 0) by decide), if_neg (show ¬ fM = 0 by rw [r1]; intro z; apply c4; grind), r1]
          have ek : k - fS + -1 = k - (fS + 1) := by grind
          rw [ek]
          exact ih _ _ _ _ _ _ _ _ _ _ (fresh (fS + 1))
theorem lSlow {N : Nat} (hN : 1000 < N) {hS hM : MH} {m r o : Nat} (hR : IvR hS hM m r o) {a1 much k what : Int32} (hw : 0 ≤ what ∧ what < 3) {t : T6} {z : Nat} (tf : TF t z) {h1 h2 : MH} (l1 : LnS h1 t) (l2 : LnM h2 t) (gv : GV hM a1 h1) (f1 : Fr vS hS h1) (f2 : Fr vM hM h2) : ∀ (d n n' y : Nat), y + d = 21 → d < n → d < n' → ∀ fS sS lS bS eS fM sM bM eM lM, SR k fS sS lS bS eS fM sM bM eM lM →
    ∃ v k1 k2, L_Ledger_slowSlip N n much k what fS sS lS bS eS (nI y) h1 = some (v, k1) ∧ Fr vS hS k1 ∧ Fr vM hM k2 ∧ ((v = -1 ∧ L_M_slow N n' a1 much what fM sM bM eM lM (nI y) h2 = some (-1, sI k2 68 0 6)) ∨ (0 ≤ v ∧ L_M_slow N n' a1 much what fM sM bM eM lM (nI y) h2 = some (v, sI k2 68 0 0))) := by
  intro d
  induction d with
  | zero =>
    intro n n' y hd hn hn' fS sS lS bS eS fM sM bM eM lM sr
    obtain ⟨n, rfl⟩ : ∃ q, n = q + 1 := ⟨n - 1, by omega⟩
    obtain ⟨n', rfl⟩ : ∃ q, n' = q + 1 := ⟨n' - 1, by omega⟩
    have : y = 21 := by omega
    subst this
    refine ⟨-1, h1, h2, ?_, f1, f2, .inl ⟨rfl, ?_⟩⟩
    · show F_Ledger_slowSlip_35 N (L_Ledger_slowSlip N n) _ _ _ _ _ _ _ _ _ _ = _
      unfold F_Ledger_slowSlip_35
      rw [if_pos (by decide)]
    · show F_M_slow_84 N (L_M_slow N n') _ _ _ _ _ _ _ _ _ _ = _
      unfold F_M_slow_84 f_M_refuse
      rw [if_pos (by decide)]
      rfl
  | succ d ih =>
    intro n n' y hd hn hn' fS sS lS bS eS fM sM bM eM lM sr
    obtain ⟨n, rfl⟩ : ∃ q, n = q + 1 := ⟨n - 1, by omega⟩
    obtain ⟨n', rfl⟩ : ∃ q, n' = q + 1 := ⟨n' - 1, by omega⟩
    have ih' := ih n n' (y + 1) (by omega) (by omega) (by omega)
    show ∃ v k1 k2, F_Ledger_slowSlip_35 N (L_Ledger_slowSlip N n) much k what fS sS lS bS eS (nI y) h1 = some (v, k1) ∧ Fr vS hS k1 ∧ Fr vM hM k2 ∧ ((v = -1 ∧ F_M_slow_84 N (L_M_slow N n') a1 much what fM sM bM eM lM (nI y) h2 = some (-1, sI k2 68 0 6)) ∨ (0 ≤ v ∧ F_M_slow_84 N (L_M_slow N n') a1 much what fM sM bM eM lM (nI y) h2 = some (v, sI k2 68 0 0)))
    unfold F_Ledger_slowSlip_35 F_M_slow_84
    have g1 : ¬ (20 < nI y) := by rw [show (20 < nI y) = (20 < y) from nN_lt (a := 20) (by omega) (by omega)]; omega
    have e1 : (20 ≤ nI y) = (20 ≤ y) := nN_le (a := 20) (by omega) (by omega)
    have e2 : (nI y = 20) = (y = 20) := nN_inj (b := 20) (by omega) (by omega)
    simp (disch := omega) only [g1, if_false, e1, e2, inB_nI, iN_nI]
    by_cases g2 : y = 20
    · subst g2
      rw [if_pos (by omega), if_pos rfl]
      unfold F_M_slow_109 F_M_slow_127
      rw [if_pos rfl, if_pos (by decide), if_pos rfl]
      exact slowStep (by omega) (.inl rfl) sr f1 f2 eS_sideOf20 hw ih'
    · have y20 : y < 20 := by omega
      rw [if_neg (by omega), if_pos y20, if_neg g2]
      have gy := gv y y20
      have my := eM_VV (N := N) (by omega) hR f2 a1 (nI y)
      cases ev : VV hM a1 (nI y) with
      | none =>
        rw [ev] at gy my
        simp only at my
        rw [gy, if_pos rfl, my, bnd_some]
        unfold F_M_slow_109
        rw [if_pos rfl, if_neg (by rw [e1]; omega), show nI y + 1 = nI (y + 1) from nN_add y 1]
        exact ih' _ _ _ _ _ _ _ _ _ _ sr
      | some q =>
        rw [ev] at gy my
        simp only at my gy
        obtain ⟨kk, k1, k2, k3, k4, k5⟩ := my
        rw [gy.1, if_neg (by decide), k2, bnd_some]
        unfold F_M_slow_109 F_M_slow_127
        have nk : ¬ nI kk = -1 := m1_ne (by omega)
        rw [if_neg nk, if_neg nk, eM_sideOf (by omega) hR tf l2 y20 ev k1 k3 k4 k5, bnd_some]
        exact slowStep (by omega) (sdv_3 t y q) sr f1 f2 (eS_sideOf l1 gv y20 ev) hw ih'
theorem op_slow {N : Nat} (hN : 1000 < N) {hS hM : MH} (h : Inv2 hS hM) (a1 a2 a3 a4 : Int32) : OK2 hS hM (f_S_slow N a1 a2 a3 a4 hS) (f_M_slow N a1 a2 a3 a4 hM) := by
  obtain ⟨G, n, m, hE, hn, hm, eG, e1, e2, e3, e4⟩ := Inv_nm h
  obtain ⟨m', r, o, hR, hA⟩ := Inv_RA h
  show OK2 hS hM (f_S_slow N a1 a2 a3 a4 hS) (F_M_slow_0 N (L_M_slow N N) a1 a2 a3 a4 hM)
  unfold f_S_slow F_M_slow_0 f_S_refuse f_M_refuse f_S_answer
  simp only [eS_isMark, eM_isMark, eS_isWithin, eS_isOneOf, bnd_some, bz, iteV, iteW, eG, e2, e4]
  by_cases g1 : 0 ≤ a1 ∧ a1 < nI m
  case neg =>
    simp only [g1, not_false_eq_true, if_true]
    exact OK2_st h Fr.rfl Fr.rfl _ _
  by_cases g2 : 2 ≤ a2 ∧ a2 ≤ 10
  case neg =>
    simp only [g1, g2, and_self, not_true, not_false_eq_true, if_true, if_false]
    exact OK2_st h Fr.rfl Fr.rfl _ _
  by_cases g3 : a3 < 0
  case pos =>
    simp only [g1, g2, g3, and_self, not_true, not_false_eq_true, if_true, if_false]
    exact OK2_st h Fr.rfl Fr.rfl _ _
  by_cases g4 : 0 ≤ a4 ∧ a4 < 3
  case neg =>
    have g4' : ¬ (0 ≤ a4 ∧ a4 ≤ 2) := by grind
    simp only [g1, g2, g3, g4, g4', and_self, not_true, not_false_eq_true, if_true, if_false]
    exact OK2_st h Fr.rfl Fr.rfl _ _
  have g4' : 0 ≤ a4 ∧ a4 ≤ 2 := by grind
  simp only [g1, g2, g3, g4, g4', and_self, not_true, not_false_eq_true, if_true, if_false]
  obtain ⟨x1, b1, b2, b3⟩ := eGather (N := N) hN hR hA a1
  rw [b1, bnd_some]
  obtain ⟨x2, c1, c2, c3⟩ := eS_fit (N := N) (by omega) (hM := hM) (h := x1) (mk := a1) (a := 0) (e := 20) (by omega) (by omega) b3
  obtain ⟨x3, d1, d2, d3⟩ := eM_fit (N := N) (by omega) hR a1 (a := 0) (e := 20) (by omega) (by omega) (Fr.rfl (h := hM))
  have c1' : f_Ledger_fit N 0 19 x1 = some x2 := c1
  have d1' : f_M_fit N a1 0 19 hM = some x3 := d1
  have tf := ft_ok hR a1 (a := 0) (l := 20 - 0) (by omega)
  generalize ft hM a1 0 (20 - 0) = t at c2 d2 tf
  have fS : Fr vS hS x2 := (b2.mono (fun _ _ => wG_v)).trans (c3.mono (fun _ _ => wL_v))
  have fM : Fr vM hM x3 := d3.mono (fun _ _ => w6_v)
  rw [d1', bnd_some]
  show OK2 hS hM ((F_Ledger_slowSlip_0 N (L_Ledger_slowSlip N N) a2 a3 a4 x1).bind _) _
  unfold F_Ledger_slowSlip_0
  rw [c1', bnd_some]
  simp only [eL_stands c2, bnd_some, bz, cmp_ge, d2.1]
  by_cases g6 : 2 ≤ t.1
  case neg =>
    rw [if_pos g6, if_neg g6]
    exact OK2_st h fS fM _ _
  rw [if_neg (by simp [g6]), if_pos g6]
  obtain ⟨v, k1, k2, r1, r2, r3, r4⟩ := lSlow (N := N) hN hR (a1 := a1) (much := a2) (k := a3) (what := a4) g4 tf c2 d2 (GV_fr b3 c3) fS fM 21 (N + 1) (N + 1) 0 (by omega) (by omega) (by omega) 0 0 0 0 0 a3 0 0 0 0 ⟨by grind, rfl, .inl rfl, fun z => absurd rfl z⟩
  have r1' : F_Ledger_slowSlip_35 N (L_Ledger_slowSlip N N) a2 a3 a4 0 0 0 0 0 0 x2 = some (v, k1) := r1
  rw [r1', bnd_some]
  rcases r4 with ⟨q1, q2⟩ | ⟨q1, q2⟩
  · have q2' : F_M_slow_84 N (L_M_slow N N) a1 a2 a4 a3 0 0 0 0 0 x3 = some (-1, sI k2 68 0 6) := q2
    rw [q2', if_neg (by show ¬ (0 ≤ v); rw [q1]; decide)]
    exact OK2_st h r2 r3 _ _
  · have q2' : F_M_slow_84 N (L_M_slow N N) a1 a2 a4 a3 0 0 0 0 0 x3 = some (v, sI k2 68 0 0) := q2
    rw [q2', if_pos q1]
    exact OK2_st h r2 r3 _ _
