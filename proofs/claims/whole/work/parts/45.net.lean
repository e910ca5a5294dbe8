/-! NET -/
theorem nI_or (a b : Nat) : nI a ||| nI b = nI (a ||| b) := by
  rw [← Int32.toBitVec_inj, Int32.toBitVec_or]
  show BitVec.ofNat 32 a ||| BitVec.ofNat 32 b = BitVec.ofNat 32 (a ||| b)
  apply BitVec.eq_of_getLsbD_eq
  intro i hi
  simp [BitVec.getLsbD_ofNat, hi]
theorem nI_and (a b : Nat) : nI a &&& nI b = nI (a &&& b) := by
  rw [← Int32.toBitVec_inj, Int32.toBitVec_and]
  show BitVec.ofNat 32 a &&& BitVec.ofNat 32 b = BitVec.ofNat 32 (a &&& b)
  apply BitVec.eq_of_getLsbD_eq
  intro i hi
  simp [BitVec.getLsbD_ofNat, hi]
theorem or_lt {a b : Nat} (ha : a < 256) (hb : b < 256) : a ||| b < 256 := Nat.or_lt_two_pow (n := 8) ha hb
theorem and_lt {a b : Nat} (ha : a < 256) : a &&& b < 256 := Nat.lt_of_le_of_lt Nat.and_le_left ha
theorem set_ext {x y : Nat} (hx : x < 256) (hy : y < 256) (h : ∀ k, k < 8 → x.testBit k = y.testBit k) : x = y := by
  apply Nat.eq_of_testBit_eq
  intro k
  by_cases hk : k < 8
  · exact h k hk
  · rw [Nat.testBit_lt_two_pow (Nat.lt_of_lt_of_le hx (Nat.pow_le_pow_right (n := 2) (i := 8) (by omega) (by omega))), Nat.testBit_lt_two_pow (Nat.lt_of_lt_of_le hy (Nat.pow_le_pow_right (n := 2) (i := 8) (by omega) (by omega)))]
theorem tb_or2 {x m k : Nat} : (x ||| 2 ^ m).testBit k = (x.testBit k || decide (m = k)) := by
  rw [Nat.testBit_or, Nat.testBit_two_pow]
theorem IvL_vS {hS hM h : MH} {G n m : Nat} (hL : IvL hS hM G n m) (hG : G = 5 ∨ G = 54) (f : Fr vS hS h) : IvL h hM G n m :=
  IvL_fr hL f (Fr.rfl (W := vM)) (fun a k q => by
    unfold kLS at q; unfold vS
    rcases hG with rfl | rfl <;> (simp at q ⊢; omega)) (fun a k q => by
    unfold kLM at q; unfold vM; simp at q ⊢; omega)
/-- a mark that has a row that counts -/
def hvR (h : MH) (mk : Int32) : Nat → Bool
  | 0 => false
  | n + 1 => hvR h mk n || decide (gI h 95 n = mk ∧ gI h 99 n ≤ gI h 68 51)
theorem hvR_rw {hS hM : MH} {m r o : Nat} (hR : IvR hS hM m r o) (mk : Int32) : ∀ n, n ≤ r → (hvR hM mk n = true ↔ ∃ y, y < 20 ∧ rwS hM mk (nI y) n ≠ none) := by
  obtain ⟨⟨R1, R2⟩, ⟨R3, R4⟩, ⟨R5, R6⟩, R7, R8, R9⟩ := hR
  intro n
  induction n with
  | zero => intro _; simp [hvR, rwS]
  | succ n ih =>
    intro hn
    have ih := ih (by omega)
    obtain ⟨-, -, -, -, -, ⟨y0, hy0, ey0⟩, -⟩ := R7 n (by omega)
    unfold hvR
    rw [Bool.or_eq_true, decide_eq_true_eq, ih]
    constructor
    · rintro (⟨y, hy, q⟩ | ⟨q1, q2⟩)
      · refine ⟨y, hy, ?_⟩
        unfold rwS
        split
        · simp
        · exact q
      · refine ⟨y0, hy0, ?_⟩
        unfold rwS
        rw [if_pos ⟨q1, ey0, q2⟩]; simp
    · rintro ⟨y, hy, q⟩
      unfold rwS at q
      by_cases c : gI hM 95 n = mk ∧ gI hM 96 n = nI y ∧ gI hM 99 n ≤ gI hM 68 51
      · exact .inr ⟨c.1, c.2.2⟩
      · rw [if_neg c] at q; exact .inl ⟨y, hy, q⟩
/-- the set as both loops build it: marks below m are through -/
def SQ (hM : MH) (r x m : Nat) (p : Bool) : Prop := x < 256 ∧ ∀ k, k < 8 → x.testBit k = if k < m then hvR hM (nI k) r else (decide (k = m) && p)
theorem SQ_next {hM : MH} {r x m : Nat} (h : SQ hM r x m (hvR hM (nI m) r)) : SQ hM r x (m + 1) false := by
  refine ⟨h.1, fun k hk => ?_⟩
  rw [h.2 k hk]
  by_cases c : k < m
  · rw [if_pos c, if_pos (by omega)]
  · rw [if_neg c]
    by_cases c2 : k = m
    · rw [if_pos (by omega), c2]; simp
    · rw [if_neg (by omega)]; simp [c2]
theorem SQ_set {hM : MH} {r x m : Nat} {p : Bool} (hm : m < 8) (h : SQ hM r x m p) : SQ hM r (x ||| 2 ^ m) m true := by
  refine ⟨or_lt h.1 (Nat.lt_of_lt_of_le (Nat.pow_lt_pow_right (a := 2) (by omega) hm) (by omega)), fun k hk => ?_⟩
  rw [tb_or2, h.2 k hk]
  by_cases c : k < m
  · rw [if_pos c, if_pos c]
    have : ¬ m = k := by omega
    simp [this]
  · rw [if_neg c, if_neg c]
    by_cases c2 : k = m
    · subst c2; simp
    · have : ¬ m = k := fun z => c2 z.symm
      simp [c2, this]
theorem lMwv {N : Nat} {hS hM : MH} {m0 r o : Nat} (hR : IvR hS hM m0 r o) (hA : gI hS 16 11 = gI hM 68 51) {mm : Nat} (hm8 : mm ≤ 8) : ∀ (d m n x : Nat), m + d = mm → 162 * d < n → SQ hM r x m false → ∃ x', (L_Ledger_marksWithValues N n).1 (nI mm) (nI x) (nI m) hS = some (nI x', hS) ∧ SQ hM r x' mm false := by
  have hR' := hR
  obtain ⟨⟨R1, R2⟩, ⟨R3, R4⟩, ⟨R5, R6⟩, R7, R8, R9⟩ := hR'
  intro d
  induction d with
  | zero =>
    intro m n x hd hn sq
    obtain ⟨n, rfl⟩ : ∃ q, n = q + 1 := ⟨n - 1, by omega⟩
    have : m = mm := by omega
    subst this
    refine ⟨x, ?_, sq⟩
    show F_Ledger_marksWithValues_4 N (L_Ledger_marksWithValues N n) (nI m) (nI x) (nI m) hS = _
    unfold F_Ledger_marksWithValues_4
    rw [if_pos (by rw [nN_le (by omega) (by omega)]; omega)]
  | succ d ih =>
    intro m n x hd hn sq
    obtain ⟨n, rfl⟩ : ∃ q, n = q + 1 := ⟨n - 1, by omega⟩
    show ∃ x', F_Ledger_marksWithValues_4 N (L_Ledger_marksWithValues N n) (nI mm) (nI x) (nI m) hS = some (nI x', hS) ∧ _
    unfold F_Ledger_marksWithValues_4
    rw [if_neg (by rw [nN_le (by omega) (by omega)]; omega)]
    have inner : ∀ (e i n x : Nat), i + e = r → 162 * d + 1 + e < n → SQ hM r x m (hvR hM (nI m) i) → ∃ x', (L_Ledger_marksWithValues N n).2 (nI mm) (nI x) (nI m) (nI i) hS = some (nI x', hS) ∧ SQ hM r x' mm false := by
      intro e
      induction e with
      | zero =>
        intro i n x hi hn sq
        obtain ⟨n, rfl⟩ : ∃ q, n = q + 1 := ⟨n - 1, by omega⟩
        show ∃ x', F_Ledger_marksWithValues_12 N (L_Ledger_marksWithValues N n) (nI mm) (nI x) (nI m) (nI i) hS = some (nI x', hS) ∧ _
        unfold F_Ledger_marksWithValues_12
        rw [R3, if_pos (by rw [nN_le (by omega) (by omega)]; omega), show nI m + 1 = nI (m + 1) from nN_add m 1]
        have : i = r := by omega
        subst this
        exact ih (m + 1) n x (by omega) (by omega) (SQ_next sq)
      | succ e ihe =>
        intro i n x hi hn sq
        obtain ⟨n, rfl⟩ : ∃ q, n = q + 1 := ⟨n - 1, by omega⟩
        show ∃ x', F_Ledger_marksWithValues_12 N (L_Ledger_marksWithValues N n) (nI mm) (nI x) (nI m) (nI i) hS = some (nI x', hS) ∧ _
        unfold F_Ledger_marksWithValues_12
        rw [R3, if_neg (by rw [nN_le (by omega) (by omega)]; omega), eLedger_counts hR hA Fr.rfl (nI m) (by omega), bnd_some, show nI i + 1 = nI (i + 1) from nN_add i 1]
        simp only [bz]
        by_cases c : gI hM 95 i = nI m ∧ gI hM 99 i ≤ gI hM 68 51
        · rw [if_neg (by simp [c]), shl_n (by omega), nI_or]
          refine ihe (i + 1) n (x ||| 2 ^ m) (by omega) (by omega) ?_
          have : hvR hM (nI m) (i + 1) = true := by unfold hvR; simp [c]
          rw [this]
          exact SQ_set (by omega) sq
        · rw [if_pos c]
          refine ihe (i + 1) n x (by omega) (by omega) ?_
          have : hvR hM (nI m) (i + 1) = hvR hM (nI m) i := by
            show (hvR hM (nI m) i || decide _) = _
            rw [decide_eq_false c]; simp
          rw [this]; exact sq
    exact inner r 0 (n + 1) x (by omega) (by omega) (by
      refine ⟨sq.1, fun k hk => ?_⟩
      rw [sq.2 k hk]
      by_cases c : k < m
      · rw [if_pos c, if_pos c]
      · rw [if_neg c, if_neg c]; simp [hvR])
/-- tray numbers all within -/
def awT (hM : MH) (t : Nat) (lo hi : Int64) (k : Nat) : Prop := ∀ i, i < k → lo ≤ gJ hM 71 (60 * t + i) ∧ gJ hM 71 (60 * t + i) ≤ hi
theorem eAllWithin {N : Nat} {hS hM : MH} {t z c : Nat} (hz : z ≤ 60) (hc : c ≤ z) (T : ∀ k, k < z → gJ hS (60 + 2 * t + 1) k = gJ hM 71 (60 * t + k)) (lo hi : Int32) : ∀ (d i n : Nat), i + d = c → d < n → awT hM t lo.toInt64 hi.toInt64 i → ∃ v, L_Tray_allWithin N n (60 + 2 * t) (nI c) lo hi (nI i) hS = some (v, hS) ∧ ((v = 1 ∧ awT hM t lo.toInt64 hi.toInt64 c) ∨ (v = 0 ∧ ¬ awT hM t lo.toInt64 hi.toInt64 c)) := by
  intro d
  induction d with
  | zero =>
    intro i n hd hn aw
    obtain ⟨n, rfl⟩ : ∃ q, n = q + 1 := ⟨n - 1, by omega⟩
    have : i = c := by omega
    subst this
    refine ⟨1, ?_, .inl ⟨rfl, aw⟩⟩
    show F_Tray_allWithin_3 N (L_Tray_allWithin N n) (60 + 2 * t) (nI i) lo hi (nI i) hS = _
    unfold F_Tray_allWithin_3
    rw [if_pos (by rw [nN_le (by omega) (by omega)]; omega)]
  | succ d ih =>
    intro i n hd hn aw
    obtain ⟨n, rfl⟩ : ∃ q, n = q + 1 := ⟨n - 1, by omega⟩
    show ∃ v, F_Tray_allWithin_3 N (L_Tray_allWithin N n) (60 + 2 * t) (nI c) lo hi (nI i) hS = some (v, hS) ∧ _
    unfold F_Tray_allWithin_3
    rw [if_neg (by rw [nN_le (by omega) (by omega)]; omega), eTray_at (by omega), bnd_some]
    dsimp only
    rw [T i (by omega)]
    simp only [cmp_lt, cmp_le]
    by_cases c1 : gJ hM 71 (60 * t + i) < lo.toInt64
    · rw [if_pos c1]
      exact ⟨0, rfl, .inr ⟨rfl, fun q => absurd c1 (Int64.not_lt.mpr (q i (by omega)).1)⟩⟩
    · rw [if_neg c1, eTray_at (by omega), bnd_some]
      dsimp only
      rw [T i (by omega)]
      by_cases c2 : gJ hM 71 (60 * t + i) ≤ hi.toInt64
      · rw [if_pos c2, show nI i + 1 = nI (i + 1) from nN_add i 1]
        refine ih (i + 1) n (by omega) (by omega) (fun k hk => ?_)
        by_cases q : k = i
        · rw [q]; exact ⟨Int64.not_lt.mp c1, c2⟩
        · exact aw k (by omega)
      · rw [if_neg c2]
        exact ⟨0, rfl, .inr ⟨rfl, fun q => absurd (q i (by omega)).2 c2⟩⟩
/-- what a set costs -/
def csT (hM : MH) (t s : Nat) : Nat → Int32
  | 0 => 0
  | k + 1 => if s.testBit k = true then csT hM t s k + (gJ hM 71 (60 * t + k)).toInt32 else csT hM t s k
theorem eSumOf {N : Nat} {hS hM : MH} {t z c s : Nat} (hz : z ≤ 60) (hc : c ≤ z) (hc8 : c ≤ 8) (hs : s < 256) (T : ∀ k, k < z → gJ hS (60 + 2 * t + 1) k = gJ hM 71 (60 * t + k)) : ∀ (d i n : Nat), i + d = c → d < n → L_Tray_sumOf N n (60 + 2 * t) (nI s) (nI c) (csT hM t s i) (nI i) hS = some (csT hM t s c, hS) := by
  intro d
  induction d with
  | zero =>
    intro i n hd hn
    obtain ⟨n, rfl⟩ : ∃ q, n = q + 1 := ⟨n - 1, by omega⟩
    have : i = c := by omega
    subst this
    show F_Tray_sumOf_5 N (L_Tray_sumOf N n) (60 + 2 * t) (nI s) (nI i) _ (nI i) hS = _
    unfold F_Tray_sumOf_5
    rw [if_pos (by rw [nN_le (by omega) (by omega)]; omega)]
  | succ d ih =>
    intro i n hd hn
    obtain ⟨n, rfl⟩ : ∃ q, n = q + 1 := ⟨n - 1, by omega⟩
    have ih' := ih (i + 1) n (by omega) (by omega)
    show F_Tray_sumOf_5 N (L_Tray_sumOf N n) (60 + 2 * t) (nI s) (nI c) _ (nI i) hS = _
    unfold F_Tray_sumOf_5
    rw [if_neg (by rw [nN_le (by omega) (by omega)]; omega), show nI i + 1 = nI (i + 1) from nN_add i 1]
    simp only [bit0 hs (show i < 8 by omega)]
    rw [show csT hM t s (i + 1) = if s.testBit i = true then csT hM t s i + (gJ hM 71 (60 * t + i)).toInt32 else csT hM t s i from rfl] at ih'
    by_cases b : s.testBit i = true
    · rw [if_neg (by rw [b]; decide), eTray_at (by omega), bnd_some]
      dsimp only
      rw [T i (by omega)]
      rw [if_pos b] at ih'
      exact ih'
    · have b' : s.testBit i = false := by cases q : s.testBit i; rfl; exact absurd q b
      rw [if_pos b']
      rw [if_neg b] at ih'
      exact ih'
/-- the reference's sum of costs, then on -/
theorem lM213 {N : Nat} {hS hM hy : MH} {G n0 m0 : Nat} (hL : IvL hS hM G n0 m0) {t s : Nat} (ht : t < 4) (hs : s < 256) (fy : Fr vM hM hy) (purse has best most least : Int32) (res : Option (Int32 × MH) → Prop) (K : Nat)
    (cont : ∀ n, K ≤ n → res (if csT hM t s m0 ≤ purse then ((f_M_rankOf N (has ||| nI s) 63 hy).bind (fun x20 => if x20.1 < most then ((L_M_net N n).2.2.2.1 (nI t) purse has best most least (nI (s + 1)) x20.2) else (if x20.1 = most then (if csT hM t s m0 < least then ((L_M_net N n).2.2.2.1 (nI t) purse has (nI s) x20.1 (csT hM t s m0) (nI (s + 1)) x20.2) else ((L_M_net N n).2.2.2.1 (nI t) purse has best most least (nI (s + 1)) x20.2)) else ((L_M_net N n).2.2.2.1 (nI t) purse has (nI s) x20.1 (csT hM t s m0) (nI (s + 1)) x20.2)))) else ((L_M_net N n).2.2.2.1 (nI t) purse has best most least (nI (s + 1)) hy))) :
    ∀ (d i n : Nat), i + d = m0 → K + d < n → res ((L_M_net N n).2.2.2.2 (nI t) purse has best most least (nI s) (csT hM t s i) (nI i) hy) := by
  obtain ⟨⟨l1, l2⟩, ⟨l3, l4⟩, ⟨l5, l6⟩, -⟩ := hL
  have g33 : gI hy 68 33 = nI m0 := by rw [fy.i 68 33 rfl, l6]
  intro d
  induction d with
  | zero =>
    intro i n hd hn
    obtain ⟨n, rfl⟩ : ∃ q, n = q + 1 := ⟨n - 1, by omega⟩
    have : i = m0 := by omega
    subst this
    show res (F_M_net_213 N (L_M_net N n) (nI t) purse has best most least (nI s) (csT hM t s i) (nI i) hy)
    unfold F_M_net_213 F_M_net_306
    rw [g33, if_pos (by rw [nN_le (by omega) (by omega)]; omega), show nI s + 1 = nI (s + 1) from nN_add s 1]
    exact cont n (by omega)
  | succ d ih =>
    intro i n hd hn
    obtain ⟨n, rfl⟩ : ∃ q, n = q + 1 := ⟨n - 1, by omega⟩
    have ih' := ih (i + 1) n (by omega) (by omega)
    rw [show csT hM t s (i + 1) = if s.testBit i = true then csT hM t s i + (gJ hM 71 (60 * t + i)).toInt32 else csT hM t s i from rfl] at ih'
    show res (F_M_net_213 N (L_M_net N n) (nI t) purse has best most least (nI s) (csT hM t s i) (nI i) hy)
    unfold F_M_net_213
    rw [g33, if_neg (by rw [nN_le (by omega) (by omega)]; omega), show nI i + 1 = nI (i + 1) from nN_add i 1, L60, nN_mul, nN_add]
    simp only [bit1 hs (show i < 8 by omega)]
    rw [iN_nI (by omega), fy.j 71 _ rfl]
    by_cases b : s.testBit i = true
    · rw [if_pos b, if_pos (by rw [inB_nI (by omega)]; omega)]
      rw [if_pos b] at ih'
      exact ih'
    · rw [if_neg b, show csT hM t s i + 0 = csT hM t s i by grind]
      rw [if_neg b] at ih'
      exact ih'
theorem lNet {N : Nat} (hN : 3000 < N) {hS hM : MH} {G n0 m0 : Nat} (hL : IvL hS hM G n0 m0) (hG : G = 5 ∨ G = 54) (eG : gR hS 1 11 = G) {t z v : Nat} (ht : t < 4) (hz : z ≤ 60) (hmz : m0 ≤ z) (hv : v < 2 ^ m0) (T : ∀ k, k < z → gJ hS (60 + 2 * t + 1) k = gJ hM 71 (60 * t + k)) {purse : Int32} (hp : 0 ≤ purse) :
    ∀ (d i n n' : Nat) (R C bS bM : Int32) (hx hy : MH), i + d = 2 ^ m0 → d < n → 20 * d < n' → Fr vS hS hx → Fr vM hM hy → ((bS = bM ∧ 0 ≤ bM ∧ 0 < i) ∨ (i = 0 ∧ R = -1)) →
    ∃ R' C' B' kx ky, L_S_chooseNet N n (60 + 2 * t) purse (nI v) R C bS (nI i) hx = some (R', sI (sI kx 1 16 B') 1 17 C') ∧ (L_M_net N n').2.2.2.1 (nI t) purse (nI v) bM R C (nI i) hy = some (R', sI (sI (sI ky 68 79 B') 68 80 C') 68 0 0) ∧ 0 ≤ B' ∧ Fr vS hS kx ∧ Fr vM hM ky := by
  have hm8 := hL.1.2
  have hpw := p256 hm8
  intro d
  induction d with
  | zero =>
    intro i n n' R C bS bM hx hy hd hn hn' fx fy rel
    obtain ⟨n, rfl⟩ : ∃ q, n = q + 1 := ⟨n - 1, by omega⟩
    obtain ⟨n', rfl⟩ : ∃ q, n' = q + 1 := ⟨n' - 1, by omega⟩
    have h0 : 0 < 2 ^ m0 := Nat.pow_pos (by omega)
    have gx : gI hx (gR hx 1 11) 1 = nI m0 := by
      rw [fx.r 1 11 rfl, eG]
      exact (IvL_vS hL hG fx).2.2.1.1
    have gy : gI hy 68 33 = nI m0 := by rw [fy.i 68 33 rfl]; exact hL.2.2.1.2
    rcases rel with ⟨q1, q2, q3⟩ | ⟨q1, -⟩
    · refine ⟨R, C, bM, hx, hy, ?_, ?_, q2, fx, fy⟩
      · show F_S_chooseNet_27 N (L_S_chooseNet N n) (60 + 2 * t) purse (nI v) R C bS (nI i) hx = _
        unfold F_S_chooseNet_27
        rw [gx, shl_n hm8, if_pos (by rw [nN_le (by omega) (by omega)]; omega), q1]
      · show F_M_net_186 N (L_M_net N n') (nI t) purse (nI v) bM R C (nI i) hy = _
        unfold F_M_net_186 f_M_gives
        rw [gy, shl_n hm8, if_pos (by rw [nN_le (by omega) (by omega)]; omega)]
        rfl
    · omega
  | succ d ih =>
    intro i n n' R C bS bM hx hy hd hn hn' fx fy rel
    obtain ⟨n, rfl⟩ : ∃ q, n = q + 1 := ⟨n - 1, by omega⟩
    obtain ⟨n', rfl⟩ : ∃ q, n' = q + 1 := ⟨n' - 1, by omega⟩
    have hLx := IvL_vS hL hG fx
    have gx : gI hx (gR hx 1 11) 1 = nI m0 := by
      rw [fx.r 1 11 rfl, eG]
      exact hLx.2.2.1.1
    have gy : gI hy 68 33 = nI m0 := by rw [fy.i 68 33 rfl]; exact hL.2.2.1.2
    have i256 : i < 256 := by omega
    have Tx : ∀ k, k < z → gJ hx (60 + 2 * t + 1) k = gJ hM 71 (60 * t + k) := fun k hk => by
      rw [fx.j _ k (by unfold vS; simp; omega)]; exact T k hk
    have sc := eSumOf (N := N) (hS := hx) (hM := hM) (t := t) (z := z) (c := m0) (s := i) hz hmz hm8 i256 Tx m0 0 (N + 1) (by omega) (by omega)
    have sc' : f_Tray_sumOf N (60 + 2 * t) (nI i) (nI m0) hx = some (csT hM t i m0, hx) := sc
    have lt2 : ¬ (nI (2 ^ m0) ≤ nI i) := by rw [nN_le (by omega) (by omega)]; omega
    show ∃ R' C' B' kx ky, F_S_chooseNet_27 N (L_S_chooseNet N n) (60 + 2 * t) purse (nI v) R C bS (nI i) hx = some (R', sI (sI kx 1 16 B') 1 17 C') ∧ F_M_net_186 N (L_M_net N n') (nI t) purse (nI v) bM R C (nI i) hy = some (R', sI (sI (sI ky 68 79 B') 68 80 C') 68 0 0) ∧ _
    unfold F_S_chooseNet_27 F_M_net_186 F_S_chooseNet_111
    rw [gx, gy, shl_n hm8, if_neg lt2, if_neg lt2, sc', bnd_some]
    dsimp only
    have iv : i &&& v < 256 := and_lt i256
    rw [nI_and, show nI i + 1 = nI (i + 1) from nN_add i 1]
    have ez : (nI (i &&& v) = 0) = (i &&& v = 0) := nN_inj (b := 0) (by omega) (by omega)
    simp only [ez]
    by_cases c1 : i &&& v = 0
    case neg =>
      rw [if_neg c1, if_neg c1]
      have i0 : i ≠ 0 := by intro q; rw [q] at c1; simp at c1
      refine ih (i + 1) n n' R C bS bM hx hy (by omega) (by omega) (by omega) fx fy ?_
      rcases rel with ⟨q1, q2, q3⟩ | ⟨q1, -⟩
      · exact .inl ⟨q1, q2, by omega⟩
      · exact absurd q1 i0
    rw [if_pos c1, if_pos c1]
    refine lM213 (N := N) hL ht i256 fy purse (nI v) bM R C (fun o => ∃ R' C' B' kx ky, _ = some (R', sI (sI kx 1 16 B') 1 17 C') ∧ o = some (R', sI (sI (sI ky 68 79 B') 68 80 C') 68 0 0) ∧ 0 ≤ B' ∧ Fr vS hS kx ∧ Fr vM hM ky) (20 * d + 1) (fun n1 hn1 => ?_) m0 0 (n' + 1) (by omega) (by omega)
    by_cases c2 : csT hM t i m0 ≤ purse
    case neg =>
      rw [if_neg c2, if_neg c2]
      have i0 : i ≠ 0 := by
        intro q
        apply c2
        have : ∀ k, csT hM t i k = 0 := by
          intro k
          induction k with
          | zero => rfl
          | succ k ihk => unfold csT; rw [q, Nat.zero_testBit]; rw [q] at ihk; simpa using ihk
        rw [this m0]; exact hp
      refine ih (i + 1) n n1 R C bS bM hx hy (by omega) (by omega) (by omega) fx fy ?_
      rcases rel with ⟨q1, q2, q3⟩ | ⟨q1, -⟩
      · exact .inl ⟨q1, q2, by omega⟩
      · exact absurd q1 i0
    rw [if_pos c2, if_pos c2]
    have io : i ||| v < 256 := or_lt i256 (by omega)
    have hso : ∀ k, m0 ≤ k → (i ||| v).testBit k = false := fun k hk => by
      rw [Nat.testBit_or, Nat.testBit_lt_two_pow (Nat.lt_of_lt_of_le (show i < 2 ^ m0 by omega) (Nat.pow_le_pow_right (by omega) hk)), Nat.testBit_lt_two_pow (Nat.lt_of_lt_of_le hv (Nat.pow_le_pow_right (by omega) hk))]; rfl
    obtain ⟨x1, b1, b2⟩ := eS_ranks (N := N) (by omega) hLx hG (s := i ||| v) (lo := 99) io lo99
    obtain ⟨y1, d1, d2⟩ := eM_ranks (N := N) (by omega) hL (s := i ||| v) (sm := 63) (lo := 99) io (by omega) sm63 hso fy
    have d1' : f_M_rankOf N (nI (i ||| v)) 63 hy = some (nI (RK hM 99 (i ||| v)), y1) := d1
    have fx1 : Fr vS hS x1 := fx.trans (b2.mono (fun _ _ => wT_v))
    have fy1 : Fr vM hM y1 := fy.trans (d2.mono (fun _ _ => wR_v))
    have gG : gR hx 1 11 = G := by rw [fx.r 1 11 rfl, eG]
    rw [gG, nI_or, nI_or, b1, bnd_some, Nat.or_comm v i, d1', bnd_some]
    dsimp only
    have rk := RK_le hM 99 (i ||| v)
    generalize RK hM 99 (i ||| v) = k at rk
    have nn : ∀ q, q < 256 → (0 : Int32) ≤ nI q := fun q hq => by rw [L0, nN_le (by omega) (by omega)]; omega
    have kn : (0 : Int32) ≤ nI k := nn k (by omega)
    by_cases c3 : R < nI k
    · rw [if_pos c3, if_neg (show ¬ (nI k < R) by grind), if_neg (show ¬ (nI k = R) by grind)]
      exact ih (i + 1) n n1 (nI k) _ (nI i) (nI i) x1 y1 (by omega) (by omega) (by omega) fx1 fy1 (.inl ⟨rfl, nn i i256, by omega⟩)
    · rw [if_neg c3]
      have rel' : bS = bM ∧ 0 ≤ bM ∧ 0 < i + 1 := by
        rcases rel with ⟨q1, q2, q3⟩ | ⟨-, q2⟩
        · exact ⟨q1, q2, by omega⟩
        · exfalso; rw [q2] at c3; apply c3
          have : (-1 : Int32) < 0 := by decide
          grind
      by_cases c4 : nI k = R
      · rw [if_pos c4, if_neg (show ¬ (nI k < R) by grind), if_pos c4]
        by_cases c5 : C ≤ csT hM t i m0
        · rw [if_pos c5, if_neg (Int32.not_lt.mpr c5)]
          exact ih (i + 1) n n1 R C bS bM x1 y1 (by omega) (by omega) (by omega) fx1 fy1 (.inl rel')
        · rw [if_neg c5, if_pos (Int32.not_le.mp c5)]
          exact ih (i + 1) n n1 (nI k) _ (nI i) (nI i) x1 y1 (by omega) (by omega) (by omega) fx1 fy1 (.inl ⟨rfl, nn i i256, by omega⟩)
      · rw [if_neg c4, if_pos (show nI k < R by grind)]
        exact ih (i + 1) n n1 R C bS bM x1 y1 (by omega) (by omega) (by omega) fx1 fy1 (.inl rel')
/-- the reference's marks with values -/
theorem lMhas {N : Nat} (hN : 3000 < N) {hS hM : MH} {G n0 m0 m' r o : Nat} (hL : IvL hS hM G n0 m0) (hR : IvR hS hM m' r o) (t : Nat) (purse : Int32) (res : Option (Int32 × MH) → Prop) (K : Nat)
    (cont : ∀ n x, K ≤ n → SQ hM r x m0 false → res ((L_M_net N (n + 1)).2.2.2.1 (nI t) purse (nI x) (-1) (-1) 0 (nI 0) hM)) :
    ∀ (d m n x : Nat), m + d = m0 → K + 30 * d < n → SQ hM r x m false → res ((L_M_net N n).2.1 (nI t) purse (nI x) (nI m) hM) := by
  obtain ⟨⟨l1, l2⟩, ⟨l3, l4⟩, ⟨l5, l6⟩, -⟩ := hL
  intro d
  induction d with
  | zero =>
    intro m n x hd hn sq
    obtain ⟨n, rfl⟩ : ∃ q, n = q + 1 := ⟨n - 1, by omega⟩
    have : m = m0 := by omega
    subst this
    show res (F_M_net_120 N (L_M_net N n) (nI t) purse (nI x) (nI m) hM)
    unfold F_M_net_120
    rw [l6, if_pos (by rw [nN_le (by omega) (by omega)]; omega)]
    exact cont n x (by omega) sq
  | succ d ih =>
    intro m n x hd hn sq
    obtain ⟨n, rfl⟩ : ∃ q, n = q + 1 := ⟨n - 1, by omega⟩
    show res (F_M_net_120 N (L_M_net N n) (nI t) purse (nI x) (nI m) hM)
    unfold F_M_net_120
    rw [l6, if_neg (by rw [nN_le (by omega) (by omega)]; omega)]
    have inner : ∀ (e y n x : Nat) (p : Bool), y + e = 20 → K + 30 * d + 1 + e < n → SQ hM r x m p → (p = true ↔ ∃ y', y' < y ∧ rwS hM (nI m) (nI y') r ≠ none) → res ((L_M_net N n).2.2.1 (nI t) purse (nI x) (nI m) (nI y) hM) := by
      intro e
      induction e with
      | zero =>
        intro y n x p hy hn sq hp
        obtain ⟨n, rfl⟩ : ∃ q, n = q + 1 := ⟨n - 1, by omega⟩
        show res (F_M_net_132 N (L_M_net N n) (nI t) purse (nI x) (nI m) (nI y) hM)
        unfold F_M_net_132
        rw [if_pos (by rw [L20, nN_le (by omega) (by omega)]; omega), show nI m + 1 = nI (m + 1) from nN_add m 1]
        refine ih (m + 1) n x (by omega) (by omega) (SQ_next ?_)
        have : hvR hM (nI m) r = p := by
          have := hvR_rw hR (nI m) r (Nat.le_refl _)
          rw [show y = 20 by omega] at hp
          rw [Bool.eq_iff_iff, this, hp]
        rw [this]; exact sq
      | succ e ihe =>
        intro y n x p hy hn sq hp
        obtain ⟨n, rfl⟩ : ∃ q, n = q + 1 := ⟨n - 1, by omega⟩
        show res (F_M_net_132 N (L_M_net N n) (nI t) purse (nI x) (nI m) (nI y) hM)
        unfold F_M_net_132
        obtain ⟨⟨R1, R2⟩, ⟨R3, R4⟩, -⟩ := hR
        rw [if_neg (by rw [L20, nN_le (by omega) (by omega)]; omega), eM_rowOf (by omega) R1 R4, bnd_some, show nI y + 1 = nI (y + 1) from nN_add y 1]
        dsimp only
        have x0 : nI x ||| 0 = nI x := by rw [L0, nI_or, Nat.or_zero]
        cases er : rwS hM (nI m) (nI y) r with
        | none =>
          rw [show rwI none = -1 from rfl, if_pos rfl, x0]
          refine ihe (y + 1) n x p (by omega) (by omega) sq ?_
          rw [hp]
          constructor
          · rintro ⟨y', a, b⟩; exact ⟨y', by omega, b⟩
          · rintro ⟨y', a, b⟩
            refine ⟨y', ?_, b⟩
            rcases Nat.lt_or_ge y' y with q | q
            · exact q
            · rw [show y' = y by omega] at b; exact absurd er b
        | some k =>
          have := (rwS_some er).1
          rw [show rwI (some k) = nI k from rfl, if_neg (m1_ne (by omega)), shl_n (by omega), nI_or]
          refine ihe (y + 1) n (x ||| 2 ^ m) true (by omega) (by omega) (SQ_set (by omega) sq) ?_
          simp only [true_iff]
          exact ⟨y, by omega, by rw [er]; simp⟩
    exact inner 20 0 (n + 1) x false (by omega) (by omega) sq (by simp)
theorem lM61 {N : Nat} {hS hM : MH} {G n0 m0 : Nat} (hL : IvL hS hM G n0 m0) {t : Nat} (ht : t < 4) (purse : Int32) (K : Nat) (res : Option (Int32 × MH) → Prop) (no : ¬ awT hM t 0 1000 m0 → res (some (-1, sI hM 68 0 1))) (yes : awT hM t 0 1000 m0 → ∀ n, K ≤ n → res ((L_M_net N (n + 1)).2.1 (nI t) purse (nI 0) (nI 0) hM)) :
    ∀ (d i n : Nat), i + d = m0 → K + d < n → awT hM t 0 1000 i → res ((L_M_net N n).1 (nI t) purse (nI i) hM) := by
  obtain ⟨⟨l1, l2⟩, ⟨l3, l4⟩, ⟨l5, l6⟩, -⟩ := hL
  intro d
  induction d with
  | zero =>
    intro i n hd hn aw
    obtain ⟨n, rfl⟩ : ∃ q, n = q + 1 := ⟨n - 1, by omega⟩
    have : i = m0 := by omega
    subst this
    show res (F_M_net_61 N (L_M_net N n) (nI t) purse (nI i) hM)
    unfold F_M_net_61
    rw [l6, if_pos (by rw [nN_le (by omega) (by omega)]; omega)]
    exact yes aw n (by omega)
  | succ d ih =>
    intro i n hd hn aw
    obtain ⟨n, rfl⟩ : ∃ q, n = q + 1 := ⟨n - 1, by omega⟩
    show res (F_M_net_61 N (L_M_net N n) (nI t) purse (nI i) hM)
    unfold F_M_net_61 f_M_refuse
    have ib : inB (nI (60 * t + i)) 240 = true := by rw [inB_nI (by omega)]; omega
    rw [l6, if_neg (by rw [nN_le (by omega) (by omega)]; omega), show nI i + 1 = nI (i + 1) from nN_add i 1, L60, nN_mul, nN_add]
    simp only [ib, if_true, cmp_lt, cmp_le, bnd_some]
    rw [iN_nI (by omega)]
    by_cases c1 : gJ hM 71 (60 * t + i) < 0
    · rw [if_pos c1]
      exact no (fun q => absurd c1 (Int64.not_lt.mpr (q i (by omega)).1))
    · rw [if_neg c1]
      by_cases c2 : gJ hM 71 (60 * t + i) ≤ 1000
      · rw [if_pos c2]
        refine ih (i + 1) n (by omega) (by omega) (fun k hk => ?_)
        by_cases q : k = i
        · rw [q]; exact ⟨Int64.not_lt.mp c1, c2⟩
        · exact aw k (by omega)
      · rw [if_neg c2]
        exact no (fun q => absurd (q i (by omega)).2 c2)
theorem Inv_net {hS hM : MH} (h : Inv2 hS hM) {B C : Int32} (hB : 0 ≤ B) : Inv2 (sI (sI hS 1 16 B) 1 17 C) (sI (sI hM 68 79 B) 68 80 C) := by
  obtain ⟨⟨a1, a2, a3, a4, a5, a6, a7, a8, a9⟩, ⟨G, n, m, ⟨hG, hr, hL, hR, hK⟩⟩, hT, hP, hF, hW⟩ := h
  refine ⟨⟨a1, a2, a3, a4, a5, a6, ⟨rfl, .inr hB, fun _ => rfl⟩, a8, a9⟩, ⟨G, n, m, hG, hr, ?_, hR, hK⟩, hT, hP, hF, hW⟩
  rcases hG with ⟨rfl, -⟩ | ⟨rfl, -⟩
  · exact hL
  · exact hL
theorem op_net {N : Nat} (hN : 10000 < N) {hS hM : MH} (h : Inv2 hS hM) (a1 a2 : Int32) : OK2 hS hM (f_S_net N a1 a2 hS) (f_M_net N a1 a2 hM) := by
  obtain ⟨G, n, m, hE, hn, hm, eG, e1, e2, e3, e4⟩ := Inv_nm h
  obtain ⟨m', r, o, hR, hA⟩ := Inv_RA h
  have hL := hE.2.2.1
  have hG := Inv_G hE
  show OK2 hS hM (f_S_net N a1 a2 hS) (F_M_net_0 N (L_M_net N N) a1 a2 hM)
  unfold f_S_net F_M_net_0 f_S_refuse f_M_refuse f_S_answer
  simp only [eS_isTray, eM_isTray, eS_isWithin, bnd_some, bz, iteV]
  by_cases g1 : 0 ≤ a1 ∧ a1 < 4
  case neg =>
    simp only [g1, not_false_eq_true, if_true]
    exact OK2_st h Fr.rfl Fr.rfl _ _
  by_cases g2 : 0 ≤ a2 ∧ a2 ≤ 10000
  case neg =>
    simp only [g1, g2, and_self, not_true, not_false_eq_true, if_true, if_false]
    exact OK2_st h Fr.rfl Fr.rfl _ _
  simp only [g1, g2, and_self, not_true, not_false_eq_true, if_true, if_false]
  obtain ⟨t, ht, rfl⟩ := rng (n := 4) (by omega) g1
  have ib : inB (nI t) 4 = true := by rw [inB_nI (by omega)]; omega
  simp only [ib, if_true]
  have Tt := Inv_T h ht
  rw [iN_nI (by omega), Tt.1, eTray_isMissing Tt, bnd_some]
  simp only [bz]
  obtain ⟨T1, -, T3, T4⟩ := Tt
  rcases T4 with q | ⟨z, z1, z2, z3⟩
  · simp only [q, not_true, if_true, if_false]
    exact OK2_st h Fr.rfl Fr.rfl _ _
  have nt : ¬ gI hM 70 t = -1 := by rw [z2]; exact m1_ne (by omega)
  simp only [nt, not_false_eq_true, if_true, if_false]
  rw [eG, e2, e4, T3, z2]
  have ez : (nI m ≤ nI z) = (m ≤ z) := nN_le (by omega) (by omega)
  simp only [ez]
  by_cases g3 : m ≤ z
  case neg =>
    rw [if_neg g3, if_neg g3]
    exact OK2_st h Fr.rfl Fr.rfl _ _
  rw [if_pos g3, if_pos g3]
  obtain ⟨v, v1, v2⟩ := eAllWithin (N := N) (hS := hS) (hM := hM) (t := t) (z := z) (c := m) z1 g3 z3 0 1000 m 0 (N + 1) (by omega) (by omega) (fun i hi => by omega)
  have v1' : f_Tray_allWithin N (60 + 2 * t) (nI m) 0 1000 hS = some (v, hS) := v1
  rw [v1', bnd_some]
  dsimp only
  refine lM61 (N := N) hL ht a2 9000 (fun o => OK2 hS hM _ o) (fun aw => ?_) (fun aw n1 hn1 => ?_) m 0 (N + 1) (by omega) (by omega) (fun i hi => by omega)
  · rcases v2 with ⟨-, q⟩ | ⟨q, -⟩
    · exact absurd q aw
    · rw [if_pos q]
      exact OK2_st h Fr.rfl Fr.rfl _ _
  · rcases v2 with ⟨q, -⟩ | ⟨-, q⟩
    case inr => exact absurd aw q
    rw [if_neg (by rw [q]; decide)]
    have sq0 : SQ hM r 0 0 false := ⟨by omega, fun k hk => by simp⟩
    obtain ⟨x, x1, x2⟩ := lMwv (N := N) hR hA hm m 0 (N + 1) 0 (by omega) (by omega) sq0
    have x1' : f_Ledger_marksWithValues N (nI m) hS = some (nI x, hS) := x1
    refine lMhas (N := N) (by omega) hL hR t a2 (fun o => OK2 hS hM _ o) 8000 (fun n2 x' hn2 sq' => ?_) m 0 (n1 + 1) 0 (by omega) (by omega) sq0
    have exx : x' = x := set_ext sq'.1 x2.1 (fun k hk => by rw [sq'.2 k hk, x2.2 k hk])
    subst exx
    have xlt : x' < 2 ^ m := by
      apply Nat.lt_of_not_le
      intro hge
      obtain ⟨k, k1, k2⟩ := Nat.exists_ge_and_testBit_of_ge_two_pow hge
      by_cases k8 : k < 8
      · rw [x2.2 k k8, if_neg (by omega)] at k2; simp at k2
      · rw [Nat.testBit_lt_two_pow (Nat.lt_of_lt_of_le x2.1 (Nat.pow_le_pow_right (n := 2) (i := 8) (by omega) (by omega)))] at k2; cases k2
    have hpw := p256 hm
    obtain ⟨R', C', B', kx, ky, r1, r2, r3, r4, r5⟩ := lNet (N := N) (by omega) hL hG eG ht z1 g3 xlt z3 g2.1 (2 ^ m) 0 (N + 1) (n2 + 1) (-1) 0 0 (-1) hS hM (by omega) (by omega) (by omega) Fr.rfl Fr.rfl (.inr ⟨rfl, rfl⟩)
    show OK2 hS hM ((F_S_chooseNet_0 N (L_S_chooseNet N N) (60 + 2 * t) a2 hS).bind _) _
    unfold F_S_chooseNet_0
    rw [eG, e2, x1', bnd_some]
    dsimp only
    have r1' : F_S_chooseNet_27 N (L_S_chooseNet N N) (60 + 2 * t) a2 (nI x') (-1) 0 0 0 hS = some (R', sI (sI kx 1 16 B') 1 17 C') := r1
    rw [r1', bnd_some, r2]
    refine ⟨R', _, _, rfl, rfl, Inv_st (Inv_net (Inv_vol h r4 r5) r3) 0, (((r4.mono (fun _ _ => vS_le)).sI 1 16 _ rfl).sI 1 17 _ rfl).sI 1 12 0 rfl, (((r5.mono (fun _ _ => vM_le)).sI 68 79 _ rfl).sI 68 80 _ rfl).sI 68 0 0 rfl⟩
