/-! LINES -/
abbrev T6 : Type := Int64 × Int64 × Int64 × Int64 × Int64 × Int64
def ad6 (t : T6) (x y : Int64) : T6 := (t.1 + 1, t.2.1 + x, t.2.2.1 + y, t.2.2.2.1 + x * x, t.2.2.2.2.1 + x * y, t.2.2.2.2.2 + y * y)
def ft (hM : MH) (mk : Int32) (a : Nat) : Nat → T6
  | 0 => (0, 0, 0, 0, 0, 0)
  | l + 1 => match VV hM mk (nI (a + l)) with
    | none => ft hM mk a l
    | some q => ad6 (ft hM mk a l) (nI (a + l)).toInt64 q.1.toInt64
def LnS (h : MH) (t : T6) : Prop := gJ h 28 0 = t.1 ∧ gJ h 28 1 = t.2.1 ∧ gJ h 28 2 = t.2.2.1 ∧ gJ h 28 3 = t.2.2.2.1 ∧ gJ h 28 4 = t.2.2.2.2.1 ∧ gJ h 28 5 = t.2.2.2.2.2
def LnM (h : MH) (t : T6) : Prop := gJ h 68 60 = t.1 ∧ gJ h 68 61 = t.2.1 ∧ gJ h 68 62 = t.2.2.1 ∧ gJ h 68 63 = t.2.2.2.1 ∧ gJ h 68 64 = t.2.2.2.2.1 ∧ gJ h 68 65 = t.2.2.2.2.2
def GV (hM : MH) (mk : Int32) (h : MH) : Prop := ∀ y, y < 20 → match VV hM mk (nI y) with
  | none => gI h 25 y = 0
  | some q => gI h 25 y = 1 ∧ gI h 26 y = q.1 ∧ gI h 27 y = q.2
def wL (c _k : Nat) : Bool := c == 28
def w6 (c k : Nat) : Bool := c == 68 && (60 ≤ k && k ≤ 65)
theorem GV_fr {hM h h' : MH} {mk : Int32} (g : GV hM mk h) (f : Fr wL h h') : GV hM mk h' := by
  intro y hy
  have := g y hy
  rw [f.i 25 y rfl, f.i 26 y rfl, f.i 27 y rfl]
  exact this
theorem rwS_fr {W : Nat → Nat → Bool} {h h' : MH} (f : Fr W h h') (w : ∀ k, W 95 k = false ∧ W 96 k = false ∧ W 99 k = false) (w2 : W 68 51 = false) (mk y : Int32) : ∀ n, rwS h' mk y n = rwS h mk y n
  | 0 => rfl
  | n + 1 => by
    unfold rwS
    rw [f.i 95 n (w n).1, f.i 96 n (w n).2.1, f.i 99 n (w n).2.2, f.i 68 51 w2, rwS_fr f w w2 mk y n]
theorem vlS_fr {W : Nat → Nat → Bool} {h h' : MH} (f : Fr W h h') (w : ∀ k, W 100 k = false ∧ W 101 k = false ∧ W 102 k = false) (mk y v : Int32) : ∀ n, vlS h' mk y v n = vlS h mk y v n
  | 0 => rfl
  | n + 1 => by
    unfold vlS
    rw [f.i 100 n (w n).1, f.i 101 n (w n).2.1, f.i 102 n (w n).2.2, vlS_fr f w mk y v n]
theorem e_ltm1 {e y : Nat} (he : e < 2147483648) (hy : y < 2147483648) : (nI e + -1 < nI y) = (e ≤ y) := by
  have m1 : (-1 : Int32).toInt = -1 := rfl
  rw [Int32.lt_iff_toInt_lt, i_add (by rw [nN_toInt he, m1]; omega) (by rw [nN_toInt he, m1]; omega), nN_toInt he, nN_toInt hy, m1]
  exact propext (by omega)
theorem eLine_add {N : Nat} {h : MH} {t : T6} (ln : LnS h t) (x v : Int64) : ∃ h', f_Line_add N x v h = some h' ∧ LnS h' (ad6 t x v) ∧ Fr wL h h' := by
  obtain ⟨n0, n1, n2, n3, n4, n5⟩ := ln
  refine ⟨_, rfl, ⟨?_, ?_, ?_, ?_, ?_, ?_⟩, ((((((Fr.rfl.sJ 28 0 _ rfl).sJ 28 1 _ rfl).sJ 28 2 _ rfl).sJ 28 3 _ rfl).sJ 28 4 _ rfl).sJ 28 5 _ rfl)⟩
  · show gJ h 28 0 + 1 = t.1 + 1; rw [n0]
  · show gJ h 28 1 + x = t.2.1 + x; rw [n1]
  · show gJ h 28 2 + v = t.2.2.1 + v; rw [n2]
  · show gJ h 28 3 + x * x = t.2.2.2.1 + x * x; rw [n3]
  · show gJ h 28 4 + x * v = t.2.2.2.2.1 + x * v; rw [n4]
  · show gJ h 28 5 + v * v = t.2.2.2.2.2 + v * v; rw [n5]
theorem lS_fit {N : Nat} {hM : MH} {mk : Int32} {a e : Nat} (he : e ≤ 20) (ha : a ≤ 20) : ∀ (n l : Nat) (h : MH), l ≤ e - a → (e - a) - l < n → GV hM mk h → LnS h (ft hM mk a l) → ∃ h', L_Ledger_fit N n (nI e + -1) (nI (a + l)) h = some h' ∧ LnS h' (ft hM mk a (e - a)) ∧ Fr wL h h' := by
  intro n
  induction n with
  | zero => intro l h _ h2; omega
  | succ n ih =>
    intro l h hl h2 gv ln
    show ∃ h', F_Ledger_fit_11 N (L_Ledger_fit N n) (nI e + -1) (nI (a + l)) h = some h' ∧ _
    unfold F_Ledger_fit_11
    simp (disch := omega) only [e_ltm1, L20, nN_le, inB_nI, iN_nI]
    by_cases g : e ≤ a + l
    · rw [if_pos g]
      have : e - a = l := by omega
      rw [this]
      exact ⟨h, rfl, ln, Fr.rfl⟩
    · have l20 : a + l < 20 := by omega
      rw [if_neg g, if_neg (by omega), if_pos l20]
      have := gv (a + l) l20
      rw [show nI (a + l) + 1 = nI (a + (l + 1)) from nN_add (a + l) 1]
      cases ev : VV hM mk (nI (a + l)) with
      | none =>
        rw [ev] at this
        rw [this, if_pos rfl]
        refine ih (l + 1) h (by omega) (by omega) gv ?_
        rw [ft, ev]; exact ln
      | some q =>
        rw [ev] at this
        simp only at this
        rw [this.1, this.2.1, if_neg (by decide), if_pos l20]
        obtain ⟨h1, f1, f2, f3⟩ := eLine_add (N := N) ln (nI (a + l)).toInt64 q.1.toInt64
        rw [f1, bnd_some]
        obtain ⟨h', e1, e2, e3⟩ := ih (l + 1) h1 (by omega) (by omega) (GV_fr gv f3) (by rw [ft, ev]; exact f2)
        exact ⟨h', e1, e2, f3.trans e3⟩
theorem eS_fit {N : Nat} (hN : 100 < N) {hM h : MH} {mk : Int32} {a e : Nat} (he : e ≤ 20) (ha : a ≤ 20) (gv : GV hM mk h) : ∃ h', f_Ledger_fit N (nI a) (nI e + -1) h = some h' ∧ LnS h' (ft hM mk a (e - a)) ∧ Fr wL h h' := by
  have fr0 : Fr wL h (sJ (sJ (sJ (sJ (sJ (sJ h 28 0 0) 28 1 0) 28 2 0) 28 3 0) 28 4 0) 28 5 0) := ((((((Fr.rfl.sJ 28 0 _ rfl).sJ 28 1 _ rfl).sJ 28 2 _ rfl).sJ 28 3 _ rfl).sJ 28 4 _ rfl).sJ 28 5 _ rfl)
  obtain ⟨h', e1, e2, e3⟩ := lS_fit (N := N) (hM := hM) (mk := mk) he ha (N + 1) 0 _ (by omega) (by omega) (GV_fr gv fr0) ⟨rfl, rfl, rfl, rfl, rfl, rfl⟩
  refine ⟨h', ?_, e2, fr0.trans e3⟩
  show F_Ledger_fit_0 N (L_Ledger_fit N N) (nI a) (nI e + -1) h = _
  unfold F_Ledger_fit_0 f_Line_clear f_Math_max
  simp only [bnd_some]
  by_cases a0 : nI a < 0
  · rw [L0, nN_lt (by omega) (by omega)] at a0; omega
  · rw [if_neg a0]
    exact e1
/-- what the reference's rows say, whatever of its own numbers has been written -/
theorem eM_VV {N : Nat} (hN : 200 < N) {hS hM h : MH} {m r o : Nat} (hR : IvR hS hM m r o) (f : Fr vM hM h) (mk y : Int32) : match VV hM mk y with
    | none => f_M_rowOf N mk y h = some (-1, h)
    | some q => ∃ k, k < 160 ∧ f_M_rowOf N mk y h = some (nI k, h) ∧ f_M_valueOf N (nI k) h = some (q.1, h) ∧ gI h 98 k = q.2 ∧ gI h 96 k = y := by
  obtain ⟨⟨R1, R2⟩, ⟨R3, R4⟩, ⟨R5, R6⟩, R7, R8, R9⟩ := hR
  have f48 : gI h 68 48 = nI r := by rw [f.i 68 48 rfl, R4]
  have f49 : gI h 68 49 = nI o := by rw [f.i 68 49 rfl, R6]
  have er := eM_rowOf (N := N) hN R1 f48 mk y
  rw [rwS_fr f (fun k => ⟨rfl, rfl, rfl⟩) rfl mk y r] at er
  unfold VV
  rw [R4, R6, iN_nI (by omega), iN_nI (by omega)]
  cases e : rwS hM mk y r with
  | none => rw [e] at er; exact er
  | some k =>
    rw [e] at er
    obtain ⟨s1, s2, s3⟩ := rwS_some e
    refine ⟨k, by omega, er, ?_, f.i 98 k rfl, ?_⟩
    · rw [eM_valueOf hN R2 f49 (by omega), f.i 95 k rfl, f.i 96 k rfl, f.i 97 k rfl, s2, s3, vlS_fr f (fun k => ⟨rfl, rfl, rfl⟩)]
    · rw [f.i 96 k rfl, s3]
theorem w6_v {c k : Nat} (h : vM c k = false) : w6 c k = false := by
  unfold vM at h; unfold w6; simp at h ⊢; omega
theorem lM_fit {N : Nat} (hN : 200 < N) {hS hM : MH} {m r o : Nat} (hR : IvR hS hM m r o) {mk : Int32} {a e : Nat} (he : e ≤ 20) (ha : a ≤ 20) : ∀ (n l : Nat) (h : MH), l ≤ e - a → (e - a) - l < n → Fr vM hM h → LnM h (ft hM mk a l) → ∃ h', L_M_fit N n mk (nI e + -1) (nI (a + l)) h = some h' ∧ LnM h' (ft hM mk a (e - a)) ∧ Fr w6 h h' := by
  intro n
  induction n with
  | zero => intro l h _ h2; omega
  | succ n ih =>
    intro l h hl h2 fr ln
    show ∃ h', F_M_fit_33 N (L_M_fit N n) mk (nI e + -1) (nI (a + l)) h = some h' ∧ _
    unfold F_M_fit_33
    simp (disch := omega) only [e_ltm1]
    by_cases g : e ≤ a + l
    · rw [if_pos g]
      have : e - a = l := by omega
      rw [this]
      exact ⟨h, rfl, ln, Fr.rfl⟩
    · rw [if_neg g]
      have := eM_VV (N := N) hN hR fr mk (nI (a + l))
      rw [show nI (a + l) + 1 = nI (a + (l + 1)) from nN_add (a + l) 1]
      cases ev : VV hM mk (nI (a + l)) with
      | none =>
        rw [ev] at this
        simp only at this
        rw [this, bnd_some, if_pos rfl]
        refine ih (l + 1) h (by omega) (by omega) fr ?_
        rw [ft, ev]; exact ln
      | some q =>
        rw [ev] at this
        simp only at this
        obtain ⟨k, k1, k2, k3, k4, k5⟩ := this
        rw [k2, bnd_some, if_neg (m1_ne (by omega)), k3, bnd_some]
        obtain ⟨n0, n1, n2, n3, n4, n5⟩ := ln
        have fr6 : Fr w6 h (sJ (sJ (sJ (sJ (sJ (sJ h 68 60 (gJ h 68 60 + 1)) 68 61 (gJ h 68 61 + (nI (a + l)).toInt64)) 68 62 (gJ h 68 62 + q.1.toInt64)) 68 63 (gJ h 68 63 + (nI (a + l)).toInt64 * (nI (a + l)).toInt64)) 68 64 (gJ h 68 64 + (nI (a + l)).toInt64 * q.1.toInt64)) 68 65 (gJ h 68 65 + q.1.toInt64 * q.1.toInt64)) := ((((((Fr.rfl.sJ 68 60 _ rfl).sJ 68 61 _ rfl).sJ 68 62 _ rfl).sJ 68 63 _ rfl).sJ 68 64 _ rfl).sJ 68 65 _ rfl)
        obtain ⟨h', e1, e2, e3⟩ := ih (l + 1) _ (by omega) (by omega) (fr.trans (fr6.mono (fun _ _ => w6_v))) (by
          rw [ft, ev]
          refine ⟨?_, ?_, ?_, ?_, ?_, ?_⟩
          · show gJ h 68 60 + 1 = _; rw [n0]; rfl
          · show gJ h 68 61 + _ = _; rw [n1]; rfl
          · show gJ h 68 62 + _ = _; rw [n2]; rfl
          · show gJ h 68 63 + _ = _; rw [n3]; rfl
          · show gJ h 68 64 + _ = _; rw [n4]; rfl
          · show gJ h 68 65 + _ = _; rw [n5]; rfl)
        exact ⟨h', e1, e2, fr6.trans e3⟩
theorem eM_fit {N : Nat} (hN : 200 < N) {hS hM h : MH} {m r o : Nat} (hR : IvR hS hM m r o) (mk : Int32) {a e : Nat} (he : e ≤ 20) (ha : a ≤ 20) (f : Fr vM hM h) : ∃ h', f_M_fit N mk (nI a) (nI e + -1) h = some h' ∧ LnM h' (ft hM mk a (e - a)) ∧ Fr w6 h h' := by
  have fr0 : Fr w6 h (sJ (sJ (sJ (sJ (sJ (sJ h 68 60 0) 68 61 0) 68 62 0) 68 63 0) 68 64 0) 68 65 0) := ((((((Fr.rfl.sJ 68 60 _ rfl).sJ 68 61 _ rfl).sJ 68 62 _ rfl).sJ 68 63 _ rfl).sJ 68 64 _ rfl).sJ 68 65 _ rfl)
  obtain ⟨h', e1, e2, e3⟩ := lM_fit (N := N) hN hR (mk := mk) he ha (N + 1) 0 _ (by omega) (by omega) (f.trans (fr0.mono (fun _ _ => w6_v))) ⟨rfl, rfl, rfl, rfl, rfl, rfl⟩
  exact ⟨h', e1, e2, fr0.trans e3⟩
/-- bounds -/
theorem nb {x y : Int} {A B : Nat} (h1 : x.natAbs ≤ A) (h2 : y.natAbs ≤ B) : (x * y).natAbs ≤ A * B := by
  rw [Int.natAbs_mul]; exact Nat.mul_le_mul h1 h2
theorem VV_bd {hS hM : MH} {m r o : Nat} (hR : IvR hS hM m r o) {mk y : Int32} {q : Int32 × Int32} (e : VV hM mk y = some q) : q.1.toInt.natAbs ≤ 42000 ∧ ∃ s, s ≤ 200 ∧ q.2 = nI s := by
  obtain ⟨⟨R1, R2⟩, ⟨R3, R4⟩, ⟨R5, R6⟩, R7, R8, R9⟩ := hR
  unfold VV at e
  rw [R4, R6, iN_nI (by omega), iN_nI (by omega)] at e
  cases e2 : rwS hM mk y r with
  | none => rw [e2] at e; cases e
  | some k =>
    rw [e2] at e
    simp only [Option.map_some, Option.some.injEq] at e
    obtain ⟨s1, s2, s3⟩ := rwS_some e2
    obtain ⟨q1, q2, q3, q4, q5, q6, q7, q8⟩ := R7 k s1
    rw [← e]
    refine ⟨?_, q8⟩
    have key : ∀ i, i ≤ o → (vlS hM mk y (gI hM 97 k) i).toInt.natAbs ≤ 2000 + 2000 * i := by
      intro i
      induction i with
      | zero => intro _; show (gI hM 97 k).toInt.natAbs ≤ _; omega
      | succ i ih =>
        intro hi
        have := ih (by omega)
        obtain ⟨-, -, -, -, b1, b2⟩ := R8 i (by omega)
        unfold vlS
        split
        · rw [i_sub (by omega) (by omega)]; omega
        · omega
    have := key o (Nat.le_refl _)
    show (vlS hM mk y (gI hM 97 k) o).toInt.natAbs ≤ _
    omega
def TF (t : T6) (z0 : Nat) : Prop :=
  (t.1.toInt.natAbs ≤ 20 ∧ t.2.1.toInt.natAbs ≤ 380 ∧ t.2.2.1.toInt.natAbs ≤ 840000 ∧ t.2.2.2.1.toInt.natAbs ≤ 7220 ∧ t.2.2.2.2.1.toInt.natAbs ≤ 15960000 ∧ t.2.2.2.2.2.toInt.natAbs ≤ 35280000000) ∧
  0 ≤ t.1.toInt ∧ 0 ≤ t.1.toInt * t.2.2.2.1.toInt - t.2.1.toInt * t.2.1.toInt ∧ (2 ≤ t.1.toInt → 0 < t.1.toInt * t.2.2.2.1.toInt - t.2.1.toInt * t.2.1.toInt)
theorem nadd {x y : Int} {A B : Nat} (h1 : x.natAbs ≤ A) (h2 : y.natAbs ≤ B) : (x + y).natAbs ≤ A + B := by omega
theorem W_step (n sx sxx X : Int) : (n + 1) * (sxx + X * X) - (sx + X) * (sx + X) = (n * sxx - sx * sx) + (n * (X * X) - 2 * (X * sx) + sxx) := by grind
theorem D_step (n sx sxx X z : Int) : (n + 1) * (z * z) - 2 * (z * (sx + X)) + (sxx + X * X) = (n * (z * z) - 2 * (z * sx) + sxx) + (z - X) * (z - X) := by grind
theorem sq_ge {u : Int} (h : 1 ≤ u) : 1 ≤ u * u := by
  have := Int.mul_le_mul h h (by omega) (by omega)
  omega
theorem le3 {a b c d e : Int} (h1 : 0 ≤ c) (h2 : d ≤ e) (h3 : 0 ≤ d) (h : a = c + e) : 0 ≤ a := by omega
theorem lt3 {a c d e : Int} (h1 : 0 ≤ c) (h2 : d ≤ e) (h3 : 2 ≤ d + 1) (h : a = c + e) : 0 < a := by omega
theorem jadd_n {x y : Int64} {A B : Nat} (hx : x.toInt.natAbs ≤ A) (hy : y.toInt.natAbs ≤ B) (h : A + B < 9223372036854775808) : (x + y).toInt = x.toInt + y.toInt := j_add (by omega) (by omega)
theorem jmul_n {x y : Int64} {A B : Nat} (hx : x.toInt.natAbs ≤ A) (hy : y.toInt.natAbs ≤ B) (h : A * B < 9223372036854775808) : (x * y).toInt = x.toInt * y.toInt := by
  have := nb hx hy
  generalize A * B = C at *
  exact j_mul (by omega) (by omega)
theorem ft_TF {hS hM : MH} {m r o : Nat} (hR : IvR hS hM m r o) (mk : Int32) (a : Nat) : ∀ l, a + l ≤ 20 →
    (((ft hM mk a l).1.toInt.natAbs ≤ l ∧ (ft hM mk a l).2.1.toInt.natAbs ≤ 19 * l ∧ (ft hM mk a l).2.2.1.toInt.natAbs ≤ 42000 * l ∧ (ft hM mk a l).2.2.2.1.toInt.natAbs ≤ 361 * l ∧ (ft hM mk a l).2.2.2.2.1.toInt.natAbs ≤ 798000 * l ∧ (ft hM mk a l).2.2.2.2.2.toInt.natAbs ≤ 1764000000 * l) ∧
    0 ≤ (ft hM mk a l).1.toInt ∧ (∀ z : Int, (a + l : Int) ≤ z → (ft hM mk a l).1.toInt ≤ (ft hM mk a l).1.toInt * (z * z) - 2 * (z * (ft hM mk a l).2.1.toInt) + (ft hM mk a l).2.2.2.1.toInt) ∧
    0 ≤ (ft hM mk a l).1.toInt * (ft hM mk a l).2.2.2.1.toInt - (ft hM mk a l).2.1.toInt * (ft hM mk a l).2.1.toInt ∧ (2 ≤ (ft hM mk a l).1.toInt → 0 < (ft hM mk a l).1.toInt * (ft hM mk a l).2.2.2.1.toInt - (ft hM mk a l).2.1.toInt * (ft hM mk a l).2.1.toInt)) := by
  intro l
  induction l with
  | zero =>
    intro _
    have z : (0 : Int64).toInt = 0 := rfl
    simp only [ft, z]
    simp
  | succ l ih =>
    intro hl
    have ih := ih (by omega)
    rw [ft]
    cases ev : VV hM mk (nI (a + l)) with
    | none =>
      simp only
      obtain ⟨⟨b1, b2, b3, b4, b5, b6⟩, c1, c2, c3, c4⟩ := ih
      exact ⟨⟨Nat.le_trans b1 (Nat.le_succ _), Nat.le_trans b2 (Nat.mul_le_mul_left _ (Nat.le_succ _)), Nat.le_trans b3 (Nat.mul_le_mul_left _ (Nat.le_succ _)), Nat.le_trans b4 (Nat.mul_le_mul_left _ (Nat.le_succ _)), Nat.le_trans b5 (Nat.mul_le_mul_left _ (Nat.le_succ _)), Nat.le_trans b6 (Nat.mul_le_mul_left _ (Nat.le_succ _))⟩, c1, fun z hz => c2 z (by clear b1 b2 b3 b4 b5 b6; omega), c3, c4⟩
    | some q =>
      simp only
      generalize ft hM mk a l = t at ih ⊢
      obtain ⟨⟨b1, b2, b3, b4, b5, b6⟩, c1, c2, c3, c4⟩ := ih
      obtain ⟨v1, -⟩ := VV_bd hR ev
      have hX : (nI (a + l)).toInt64.toInt = ((a + l : Nat) : Int) := by rw [Int32.toInt_toInt64, nN_toInt (by clear b1 b2 b3 b4 b5 b6 v1; omega)]
      have hV : q.1.toInt64.toInt = q.1.toInt := Int32.toInt_toInt64 _
      have x19 : ((a + l : Nat) : Int).natAbs ≤ 19 := by clear b1 b2 b3 b4 b5 b6 v1; omega
      have L : l ≤ 20 := by clear b1 b2 b3 b4 b5 b6 v1 x19; omega
      have p1 := nb x19 x19
      have p2 := nb x19 v1
      have p3 := nb v1 v1
      have X19 : (nI (a + l)).toInt64.toInt.natAbs ≤ 19 := by rw [hX]; exact x19
      have V1 : q.1.toInt64.toInt.natAbs ≤ 42000 := by rw [hV]; exact v1
      have one : (1 : Int64).toInt = 1 := rfl
      have d1 : (t.1 + 1).toInt = t.1.toInt + 1 := jadd_n (Nat.le_trans b1 L) (B := 1) (by rw [one]; decide) (by decide)
      have d2 : (t.2.1 + (nI (a + l)).toInt64).toInt = t.2.1.toInt + ((a + l : Nat) : Int) := by rw [jadd_n (Nat.le_trans b2 (Nat.mul_le_mul_left 19 L)) X19 (by decide), hX]
      have d3 : (t.2.2.1 + q.1.toInt64).toInt = t.2.2.1.toInt + q.1.toInt := by rw [jadd_n (Nat.le_trans b3 (Nat.mul_le_mul_left 42000 L)) V1 (by decide), hV]
      have m4 : ((nI (a + l)).toInt64 * (nI (a + l)).toInt64).toInt = ((a + l : Nat) : Int) * ((a + l : Nat) : Int) := by rw [jmul_n X19 X19 (by decide), hX]
      have m5 : ((nI (a + l)).toInt64 * q.1.toInt64).toInt = ((a + l : Nat) : Int) * q.1.toInt := by rw [jmul_n X19 V1 (by decide), hX, hV]
      have m6 : (q.1.toInt64 * q.1.toInt64).toInt = q.1.toInt * q.1.toInt := by rw [jmul_n V1 V1 (by decide), hV]
      have d4 : (t.2.2.2.1 + (nI (a + l)).toInt64 * (nI (a + l)).toInt64).toInt = t.2.2.2.1.toInt + ((a + l : Nat) : Int) * ((a + l : Nat) : Int) := by rw [jadd_n (Nat.le_trans b4 (Nat.mul_le_mul_left 361 L)) (B := 361) (by rw [m4]; exact p1) (by decide), m4]
      have d5 : (t.2.2.2.2.1 + (nI (a + l)).toInt64 * q.1.toInt64).toInt = t.2.2.2.2.1.toInt + ((a + l : Nat) : Int) * q.1.toInt := by rw [jadd_n (Nat.le_trans b5 (Nat.mul_le_mul_left 798000 L)) (B := 798000) (by rw [m5]; exact p2) (by decide), m5]
      have d6 : (t.2.2.2.2.2 + q.1.toInt64 * q.1.toInt64).toInt = t.2.2.2.2.2.toInt + q.1.toInt * q.1.toInt := by rw [jadd_n (Nat.le_trans b6 (Nat.mul_le_mul_left 1764000000 L)) (B := 1764000000) (by rw [m6]; exact p3) (by decide), m6]
      unfold ad6
      simp only [d1, d2, d3, d4, d5, d6]
      have hx := c2 ((a + l : Nat) : Int) (by clear b1 b2 b3 b4 b5 b6 v1 x19 p1 p2 p3; omega)
      generalize hXX : ((a + l : Nat) : Int) = X at *
      generalize t.1.toInt = n at *
      generalize t.2.1.toInt = sx at *
      generalize t.2.2.2.1.toInt = sxx at *
      refine ⟨⟨?_, ?_, ?_, ?_, ?_, ?_⟩, ?_, fun z hz => ?_, ?_, fun h2 => ?_⟩
      · exact nadd b1 (by decide)
      · rw [Nat.mul_succ]; exact nadd b2 x19
      · rw [Nat.mul_succ]; exact nadd b3 v1
      · rw [Nat.mul_succ]; exact nadd b4 p1
      · rw [Nat.mul_succ]; exact nadd b5 p2
      · rw [Nat.mul_succ]; exact nadd b6 p3
      · exact Int.add_nonneg c1 (by decide)
      · have D := c2 z (by clear c2 c4 b1 b2 b3 b4 b5 b6 v1 x19 p1 p2 p3; omega)
        rw [D_step]
        have : 1 ≤ z - X := by clear c2 c4 D b1 b2 b3 b4 b5 b6 v1 x19 p1 p2 p3; omega
        exact Int.add_le_add D (sq_ge this)
      · exact le3 (b := 0) c3 hx c1 (W_step n sx sxx X)
      · exact lt3 c3 hx h2 (W_step n sx sxx X)
theorem ft_ok {hS hM : MH} {m r o : Nat} (hR : IvR hS hM m r o) (mk : Int32) {a l : Nat} (h : a + l ≤ 20) : TF (ft hM mk a l) 0 := by
  have L : l ≤ 20 := by omega
  obtain ⟨⟨b1, b2, b3, b4, b5, b6⟩, c1, c2, c3, c4⟩ := ft_TF hR mk a l h
  exact ⟨⟨Nat.le_trans b1 L, Nat.le_trans b2 (Nat.mul_le_mul_left 19 L), Nat.le_trans b3 (Nat.mul_le_mul_left 42000 L), Nat.le_trans b4 (Nat.mul_le_mul_left 361 L), Nat.le_trans b5 (Nat.mul_le_mul_left 798000 L), Nat.le_trans b6 (Nat.mul_le_mul_left 1764000000 L)⟩, c1, c3, c4⟩
def tW (t : T6) : Int64 := t.1 * t.2.2.2.1 - t.2.1 * t.2.1
def tS (t : T6) : Int64 := t.1 * t.2.2.2.2.1 - t.2.1 * t.2.2.1
def tR (t : T6) : Int64 := (t.1 * t.2.2.2.2.2 - t.2.2.1 * t.2.2.1) * tW t - tS t * tS t
def tB (t : T6) : Int64 := t.1 * tW t
theorem dif64 {x y z w : Int64} {A B C D : Nat} (hx : x.toInt.natAbs ≤ A) (hy : y.toInt.natAbs ≤ B) (hz : z.toInt.natAbs ≤ C) (hw : w.toInt.natAbs ≤ D) (hb : A * B + C * D < 9223372036854775808) : (x * y - z * w).toInt = x.toInt * y.toInt - z.toInt * w.toInt ∧ (x * y - z * w).toInt.natAbs ≤ A * B + C * D := by
  have p := nb hx hy
  have q := nb hz hw
  have e1 : (x * y).toInt = x.toInt * y.toInt := j_mul (by omega) (by omega)
  have e2 : (z * w).toInt = z.toInt * w.toInt := j_mul (by omega) (by omega)
  have e3 : (x * y - z * w).toInt = x.toInt * y.toInt - z.toInt * w.toInt := by rw [j_sub, e1, e2] <;> rw [e1, e2] <;> omega
  exact ⟨e3, by rw [e3]; omega⟩
theorem tW_i {t : T6} {z : Nat} (h : TF t z) : (tW t).toInt = t.1.toInt * t.2.2.2.1.toInt - t.2.1.toInt * t.2.1.toInt ∧ (tW t).toInt.natAbs ≤ 288800 := by
  obtain ⟨⟨b1, b2, b3, b4, b5, b6⟩, c1, c2, c3⟩ := h
  exact dif64 b1 b4 b2 b2 (by decide)
theorem tS_i {t : T6} {z : Nat} (h : TF t z) : (tS t).toInt.natAbs ≤ 638400000 := by
  obtain ⟨⟨b1, b2, b3, b4, b5, b6⟩, c1, c2, c3⟩ := h
  exact (dif64 b1 b5 b2 b3 (by decide)).2
theorem tR_i {t : T6} {z : Nat} (h : TF t z) : -9223372036854775808 < (tR t).toInt := by
  have w := (tW_i h).2
  have s := tS_i h
  obtain ⟨⟨b1, b2, b3, b4, b5, b6⟩, c1, c2, c3⟩ := h
  have q := (dif64 b1 b6 b3 b3 (by decide)).2
  have := (dif64 q w s s (by decide)).2
  show -9223372036854775808 < ((t.1 * t.2.2.2.2.2 - t.2.2.1 * t.2.2.1) * tW t - tS t * tS t).toInt
  clear b1 b2 b3 b4 b5 b6 q w s
  omega
theorem tB_i {t : T6} {z : Nat} (h : TF t z) : (tB t).toInt = t.1.toInt * (tW t).toInt := by
  have w := (tW_i h).2
  obtain ⟨⟨b1, b2, b3, b4, b5, b6⟩, c1, c2, c3⟩ := h
  exact jmul_n b1 w (by decide)
theorem tS_g {t : T6} {z : Nat} (h : TF t z) : -9223372036854775808 < (tS t).toInt := by
  have := tS_i h
  omega
theorem tW_pos {t : T6} {z : Nat} (h : TF t z) (h2 : (2 : Int64) ≤ t.1) : 0 < (tW t).toInt ∧ 0 < (tB t).toInt := by
  have h2' : (2 : Int) ≤ t.1.toInt := by
    have := Int64.le_iff_toInt_le.mp h2
    exact this
  have w : 0 < (tW t).toInt := by rw [(tW_i h).1]; exact h.2.2.2 h2'
  exact ⟨w, by rw [tB_i h]; exact Int.mul_pos (by omega) w⟩
theorem eL_spread {N : Nat} {h : MH} {t : T6} (l : LnS h t) : f_Line_spread N h = some (tW t, h) := by
  obtain ⟨n0, n1, n2, n3, n4, n5⟩ := l; unfold f_Line_spread tW; rw [n0, n1, n3]
theorem eL_tilt {N : Nat} {h : MH} {t : T6} (l : LnS h t) : f_Line_tilt N h = some (tS t, h) := by
  obtain ⟨n0, n1, n2, n3, n4, n5⟩ := l; unfold f_Line_tilt tS; rw [n0, n1, n2, n4]
theorem eL_restTop {N : Nat} {h : MH} {t : T6} (l : LnS h t) : f_Line_restTop N h = some (tR t, h) := by
  unfold f_Line_restTop tR
  simp only [eL_spread l, eL_tilt l, bnd_some]
  obtain ⟨n0, n1, n2, n3, n4, n5⟩ := l
  rw [n0, n2, n5]
theorem eL_restBottom {N : Nat} {h : MH} {t : T6} (l : LnS h t) : f_Line_restBottom N h = some (tB t, h) := by
  unfold f_Line_restBottom tB
  simp only [eL_spread l, bnd_some]
  rw [l.1]
theorem eL_stands {N : Nat} {h : MH} {t : T6} (l : LnS h t) : f_Line_stands N h = some (if 2 ≤ t.1 then 1 else 0, h) := by
  unfold f_Line_stands
  simp only [cmp_lt, l.1]
  by_cases g : t.1 < 2
  · rw [if_pos g, if_neg (Int64.not_le.mpr g)]
  · rw [if_neg g, if_pos (Int64.not_lt.mp g)]
theorem eL_wholeRest {N : Nat} {h : MH} {t : T6} (l : LnS h t) : ∃ v, f_Line_wholeRest N h = some (v, h) ∧ (0 < tB t → v = tR t / tB t) := by
  unfold f_Line_wholeRest
  simp only [eL_restBottom l, eL_restTop l, bnd_some, cmp_le]
  by_cases g : tB t ≤ 0
  · rw [if_pos g]
    exact ⟨0, rfl, fun q => absurd q (Int64.not_lt.mpr g)⟩
  · rw [if_neg g]
    have : ¬ tB t = 0 := by intro q; rw [q] at g; exact g (Int64.le_refl _)
    rw [if_neg this]
    exact ⟨_, rfl, fun _ => rfl⟩
theorem eM_steep {N : Nat} {h : MH} {t : T6} (l : LnM h t) : f_M_steep N h = some (tS t, h) := by
  obtain ⟨n0, n1, n2, n3, n4, n5⟩ := l; unfold f_M_steep tS; rw [n0, n1, n2, n4]
theorem eM_wide {N : Nat} {h : MH} {t : T6} (l : LnM h t) : f_M_wide N h = some (tW t, h) := by
  obtain ⟨n0, n1, n2, n3, n4, n5⟩ := l; unfold f_M_wide tW; rw [n0, n1, n3]
theorem eM_rest {N : Nat} {h : MH} {t : T6} (l : LnM h t) : f_M_rest N h = some (tR t, h) := by
  unfold f_M_rest tR
  simp only [eM_wide l, eM_steep l, bnd_some]
  obtain ⟨n0, n1, n2, n3, n4, n5⟩ := l
  rw [n0, n2, n5]
theorem wL_v {c k : Nat} (h : vS c k = false) : wL c k = false := by
  unfold vS at h; unfold wL; simp at h ⊢; omega
theorem nI_m1 {k : Nat} : nI k = nI (k + 1) + -1 := nN_pred.symm
theorem bnd_eta {T : Type} (s : Option (T × MH)) : s.bind (fun x => some (x.1, x.2)) = s := by cases s <;> rfl
theorem op_line {N : Nat} (hN : 1000 < N) {hS hM : MH} (h : Inv2 hS hM) (a1 a2 a3 a4 : Int32) : OK2 hS hM (f_S_line N a1 a2 a3 a4 hS) (f_M_line N a1 a2 a3 a4 hM) := by
  obtain ⟨G, n, m, hE, hn, hm, eG, e1, e2, e3, e4⟩ := Inv_nm h
  obtain ⟨m', r, o, hR, hA⟩ := Inv_RA h
  unfold f_S_line f_M_line f_S_refuse f_M_refuse
  simp only [eS_isMark, eM_isMark, eS_isYear, eM_isYear, eS_isOneOf, bnd_some, bz, iteV, eG, e2, e4]
  by_cases g1 : 0 ≤ a1 ∧ a1 < nI m
  case neg =>
    simp only [g1, not_false_eq_true, if_true]
    exact OK2_st h Fr.rfl Fr.rfl _ _
  by_cases g2 : 0 ≤ a2 ∧ a2 < 20
  case neg =>
    simp only [g1, g2, and_self, not_true, not_false_eq_true, if_true, if_false]
    exact OK2_st h Fr.rfl Fr.rfl _ _
  by_cases g3 : 0 ≤ a3 ∧ a3 < 20
  case neg =>
    simp only [g1, g2, g3, and_self, not_true, not_false_eq_true, if_true, if_false]
    exact OK2_st h Fr.rfl Fr.rfl _ _
  by_cases g4 : a3 < a2
  case pos =>
    simp only [g1, g2, g3, g4, and_self, not_true, not_false_eq_true, if_true, if_false]
    exact OK2_st h Fr.rfl Fr.rfl _ _
  by_cases g5 : 0 ≤ a4 ∧ a4 < 2
  case neg =>
    have g5' : ¬ (0 ≤ a4 ∧ a4 ≤ 1) := by grind
    simp only [g1, g2, g3, g4, g5, g5', and_self, not_true, not_false_eq_true, if_true, if_false]
    exact OK2_st h Fr.rfl Fr.rfl _ _
  have g5' : 0 ≤ a4 ∧ a4 ≤ 1 := by grind
  simp only [g1, g2, g3, g4, g5, g5', and_self, not_true, not_false_eq_true, if_true, if_false]
  obtain ⟨a, ha, rfl⟩ := rng (n := 20) (by omega) g2
  obtain ⟨b, hb, rfl⟩ := rng (n := 20) (by omega) g3
  rw [nN_lt (by omega) (by omega)] at g4
  obtain ⟨x1, b1, b2, b3⟩ := eGather (N := N) hN hR hA a1
  rw [b1, bnd_some]
  obtain ⟨x2, c1, c2, c3⟩ := eS_fit (N := N) (by omega) (hM := hM) (h := x1) (mk := a1) (a := a) (e := b + 1) (by omega) (by omega) b3
  obtain ⟨x3, d1, d2, d3⟩ := eM_fit (N := N) (by omega) hR a1 (a := a) (e := b + 1) (by omega) (by omega) (Fr.rfl (h := hM))
  rw [show nI b = nI (b + 1) + -1 from nI_m1, c1, d1]
  have tf := ft_ok hR a1 (a := a) (l := b + 1 - a) (by omega)
  generalize ft hM a1 a (b + 1 - a) = t at c2 d2 tf
  simp only [bnd_some, eL_stands c2, bz, cmp_ge]
  rw [d2.1]
  have fS : Fr vS hS x2 := (b2.mono (fun _ _ => wG_v)).trans (c3.mono (fun _ _ => wL_v))
  have fM : Fr vM hM x3 := d3.mono (fun _ _ => w6_v)
  by_cases g6 : 2 ≤ t.1
  case neg =>
    rw [if_pos g6, if_neg g6]
    exact OK2_st h fS fM _ _
  obtain ⟨wp, bp⟩ := tW_pos tf g6
  rw [if_neg (by simp [g6]), if_pos g6]
  by_cases g7 : a4 = 0
  · rw [if_pos g7, if_pos g7, eL_tilt c2, bnd_some, eM_steep d2, bnd_some]
    simp only [eL_spread c2, eM_wide d2, bnd_some]
    rw [bnd_eta, bnd_eta]
    exact OK2_fr (N := N) (by omega) h fS fM (t := tS t) (d := tW t) (tS_g tf) wp
  · rw [if_neg g7, if_neg g7, eL_restTop c2, bnd_some, eM_rest d2, bnd_some]
    simp only [eL_restBottom c2, eM_wide d2, bnd_some, d2.1]
    rw [bnd_eta, bnd_eta]
    exact OK2_fr (N := N) (by omega) h fS fM (t := tR t) (d := tB t) (tR_i tf) bp
