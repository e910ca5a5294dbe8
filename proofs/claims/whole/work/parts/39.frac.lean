/-! FRACTIONS: the common divisor, told on both sides -/
def nJ (n : Nat) : Int64 := Int64.ofNat n
theorem nJ_toInt {k : Nat} (h : k < 9223372036854775808) : (nJ k).toInt = k := Int64.toInt_ofNat_of_lt h
theorem nJ_inj {a b : Nat} (ha : a < 9223372036854775808) (hb : b < 9223372036854775808) : (nJ a = nJ b) = (a = b) := by
  rw [← Int64.toInt_inj, nJ_toInt ha, nJ_toInt hb]; exact propext (by omega)
theorem nJ_mod {a b : Nat} (ha : a < 9223372036854775808) (hb : b < 9223372036854775808) (h0 : 0 < b) : nJ a - nJ a / nJ b * nJ b = nJ (a % b) := by
  have hdiv : (nJ a / nJ b).toInt = ((a / b : Nat) : Int) := by
    have hd : a / b ≤ a := Nat.div_le_self a b
    rw [Int64.toInt_div, nJ_toInt ha, nJ_toInt hb, ← Int.ofNat_tdiv]
    generalize a / b = q at hd
    rw [bm64 (by omega) (by omega)]
  have hm : a / b * b ≤ a := Nat.div_mul_le_self a b
  have hmul : (nJ a / nJ b * nJ b).toInt = ((a / b * b : Nat) : Int) := by
    rw [Int64.toInt_mul, hdiv, nJ_toInt hb, ← Int.natCast_mul]
    generalize a / b * b = q at hm
    rw [bm64 (by omega) (by omega)]
  have hl : a % b ≤ a := Nat.mod_le a b
  rw [← Int64.toInt_inj, Int64.toInt_sub, hmul, nJ_toInt ha, nJ_toInt (by omega)]
  have := Nat.div_add_mod a b
  rw [Nat.mul_comm] at this
  generalize a / b * b = q at *
  generalize a % b = r at *
  rw [bm64 (by omega) (by omega)]
  omega
theorem cmp0 {x y : Int64} : (lg_cmp x y = 0) = (x = y) := by
  unfold lg_cmp
  apply propext
  by_cases h1 : x > y
  · rw [if_pos h1]
    exact ⟨fun q => absurd q (by decide), fun q => by rw [q] at h1; exact absurd h1 (Int64.lt_irrefl)⟩
  · rw [if_neg h1]
    by_cases h2 : x = y
    · rw [if_pos h2]; exact ⟨fun _ => h2, fun _ => rfl⟩
    · rw [if_neg h2]; exact ⟨fun q => absurd q (by decide), fun q => absurd q h2⟩
theorem cmp_ge {x y : Int64} : (0 ≤ lg_cmp x y) = (y ≤ x) := by
  unfold lg_cmp
  apply propext
  by_cases h1 : x > y
  · rw [if_pos h1]; exact ⟨fun _ => Int64.le_of_lt h1, fun _ => by decide⟩
  · rw [if_neg h1]
    by_cases h2 : x = y
    · rw [if_pos h2]; exact ⟨fun _ => by rw [h2]; exact Int64.le_refl _, fun _ => by decide⟩
    · rw [if_neg h2]
      refine ⟨fun q => absurd q (by decide), fun q => ?_⟩
      exact absurd (Int64.lt_iff_le_and_ne.mpr ⟨q, fun z => h2 z.symm⟩) h1
theorem cmp_le {x y : Int64} : (lg_cmp x y ≤ 0) = (x ≤ y) := by
  unfold lg_cmp
  apply propext
  by_cases h1 : x > y
  · rw [if_pos h1]; exact ⟨fun q => absurd q (by decide), fun q => absurd h1 (Int64.not_lt.mpr q)⟩
  · rw [if_neg h1]
    by_cases h2 : x = y
    · rw [if_pos h2]; exact ⟨fun _ => by rw [h2]; exact Int64.le_refl _, fun _ => by decide⟩
    · rw [if_neg h2]
      exact ⟨fun _ => Int64.not_lt.mp h1, fun _ => by decide⟩
theorem cmp_lt {x y : Int64} : (lg_cmp x y < 0) = (x < y) := by
  have := @cmp_ge x y
  apply propext
  constructor
  · intro q
    refine Int64.not_le.mp (fun z => ?_)
    rw [← this] at z
    exact absurd q (Int32.not_lt.mpr z)
  · intro q
    refine Int32.not_le.mp (fun z => ?_)
    rw [this] at z
    exact absurd q (Int64.not_lt.mpr z)
theorem half_mod {a b : Nat} (h0 : 0 < a % b) (hb : 0 < b) : 2 * (b % (a % b)) < b := by
  have h1 := Nat.mod_lt a hb
  have h2 := Nat.mod_lt b h0
  have h3 := Nat.div_add_mod b (a % b)
  have h4 : 1 ≤ b / (a % b) := (Nat.one_le_div_iff h0).mpr (by omega)
  have h5 : (a % b) * 1 ≤ (a % b) * (b / (a % b)) := Nat.mul_le_mul_left _ h4
  omega
theorem J0 : (0 : Int64) = nJ 0 := rfl
theorem lS_cd {N : Nat} (h : MH) : ∀ (k a b i n : Nat), a < 9223372036854775808 → b < 2 ^ k → k ≤ 63 → i + 2 * k + 1 ≤ 200 → 2 * k + 1 < n → L_S_commonDivisor N n (nJ a) (nJ b) (nI i) h = some (nJ (Nat.gcd a b), h) := by
  intro k
  induction k with
  | zero =>
    intro a b i n ha hb hk hi hn
    obtain ⟨n, rfl⟩ : ∃ m, n = m + 1 := ⟨n - 1, by omega⟩
    have : b = 0 := by simpa using hb
    subst this
    show F_S_commonDivisor_9 N (L_S_commonDivisor N n) _ _ _ h = _
    unfold F_S_commonDivisor_9
    rw [if_neg (by rw [show (200 : Int32) = nI 200 from rfl, nN_le (by omega) (by omega)]; omega), if_pos (by rw [cmp0]; rfl), Nat.gcd_zero_right]
  | succ k ih =>
    intro a b i n ha hb hk hi hn
    obtain ⟨n, rfl⟩ : ∃ m, n = m + 1 := ⟨n - 1, by omega⟩
    have hp : 2 ^ (k + 1) ≤ 2 ^ 63 := Nat.pow_le_pow_right (by omega) hk
    have hb' : b < 9223372036854775808 := by omega
    show F_S_commonDivisor_9 N (L_S_commonDivisor N n) _ _ _ h = _
    unfold F_S_commonDivisor_9
    rw [if_neg (by rw [show (200 : Int32) = nI 200 from rfl, nN_le (by omega) (by omega)]; omega)]
    have zb : (nJ b = 0) = (b = 0) := nJ_inj (b := 0) hb' (by omega)
    simp only [cmp0, zb]
    by_cases b0 : b = 0
    · subst b0; rw [if_pos rfl, Nat.gcd_zero_right]
    · rw [if_neg b0, if_neg b0, nJ_mod ha hb' (by omega), show nI i + 1 = nI (i + 1) from nN_add i 1]
      have hm := Nat.mod_lt a (show 0 < b by omega)
      obtain ⟨n, rfl⟩ : ∃ m, n = m + 1 := ⟨n - 1, by omega⟩
      show F_S_commonDivisor_9 N (L_S_commonDivisor N n) _ _ _ h = _
      unfold F_S_commonDivisor_9
      rw [if_neg (by rw [show (200 : Int32) = nI 200 from rfl, nN_le (by omega) (by omega)]; omega)]
      have zm : (nJ (a % b) = 0) = (a % b = 0) := nJ_inj (b := 0) (by omega) (by omega)
      simp only [cmp0, zm]
      by_cases m0 : a % b = 0
      · rw [if_pos m0, Nat.gcd_comm, Nat.gcd_rec, m0, Nat.gcd_zero_left]
      · rw [if_neg m0, if_neg m0, nJ_mod hb' (by omega) (by omega), show nI (i + 1) + 1 = nI (i + 2) from nN_add (i + 1) 1]
        have hh := half_mod (a := a) (b := b) (by omega) (by omega)
        rw [Nat.pow_succ] at hb
        rw [ih (a % b) (b % (a % b)) (i + 2) n (by omega) (by omega) (by omega) (by omega) (by omega)]
        congr 3
        rw [Nat.gcd_comm a b, Nat.gcd_rec b a, Nat.gcd_rec (a % b) b, Nat.gcd_comm]
def sgn (t : Int64) : Int32 := if 0 < t then 1 else if t < 0 then -1 else 0
theorem lM_fr {N : Nat} (t d : Int64) (h : MH) : ∀ (k a b n : Nat), a < 9223372036854775808 → b < 2 ^ k → k ≤ 63 → 2 * k + 1 < n → 0 < Nat.gcd a b → Nat.gcd a b < 9223372036854775808 → L_M_fraction N n t d (nJ a) (nJ b) h = some (sgn t, sI (sJ (sJ h 68 1 (t / nJ (Nat.gcd a b))) 68 2 (d / nJ (Nat.gcd a b))) 68 0 0) := by
  have fin : ∀ (bk : Int64 → Int64 → Int64 → Int64 → MH → Option (Int32 × MH)) (g : Nat), 0 < g → g < 9223372036854775808 → F_M_fraction_17 N bk t d (nJ g) (nJ 0) h = some (sgn t, sI (sJ (sJ h 68 1 (t / nJ g)) 68 2 (d / nJ g)) 68 0 0) := by
    intro bk g g0 g1
    unfold F_M_fraction_17 f_M_gives
    simp only [cmp0, cmp_le, cmp_ge, J0, bnd_some]
    have : ¬ (nJ g = nJ 0) := by rw [nJ_inj g1 (by omega)]; omega
    simp only [this, if_true, if_false]
    unfold sgn
    rw [J0]
    by_cases h1 : t ≤ nJ 0
    · rw [if_pos h1, if_neg (Int64.not_lt.mpr h1)]
      by_cases h2 : nJ 0 ≤ t
      · rw [if_pos h2, if_neg (Int64.not_lt.mpr h2)]
      · rw [if_neg h2, if_pos (Int64.not_le.mp h2)]
    · rw [if_neg h1, if_pos (Int64.not_le.mp h1)]
  intro k
  induction k with
  | zero =>
    intro a b n ha hb hk hn g0 g1
    obtain ⟨n, rfl⟩ : ∃ m, n = m + 1 := ⟨n - 1, by omega⟩
    have : b = 0 := by simpa using hb
    subst this
    rw [Nat.gcd_zero_right] at g0 g1 ⊢
    exact fin _ a g0 g1
  | succ k ih =>
    intro a b n ha hb hk hn g0 g1
    obtain ⟨n, rfl⟩ : ∃ m, n = m + 1 := ⟨n - 1, by omega⟩
    have hp : 2 ^ (k + 1) ≤ 2 ^ 63 := Nat.pow_le_pow_right (by omega) hk
    have hb' : b < 9223372036854775808 := by omega
    by_cases b0 : b = 0
    · subst b0
      rw [Nat.gcd_zero_right] at g0 g1 ⊢
      exact fin _ a g0 g1
    · show F_M_fraction_17 N (L_M_fraction N n) t d (nJ a) (nJ b) h = _
      unfold F_M_fraction_17
      have zb : (nJ b = 0) = (b = 0) := nJ_inj (b := 0) hb' (by omega)
      simp only [cmp0, zb]
      rw [if_neg b0, if_neg b0, nJ_mod ha hb' (by omega)]
      have hm := Nat.mod_lt a (show 0 < b by omega)
      obtain ⟨n, rfl⟩ : ∃ m, n = m + 1 := ⟨n - 1, by omega⟩
      by_cases m0 : a % b = 0
      · have e : Nat.gcd a b = b := by rw [Nat.gcd_comm, Nat.gcd_rec, m0, Nat.gcd_zero_left]
        rw [m0, e]
        exact fin _ b (by omega) hb'
      · show F_M_fraction_17 N (L_M_fraction N n) t d (nJ b) (nJ (a % b)) h = _
        unfold F_M_fraction_17
        have zm : (nJ (a % b) = 0) = (a % b = 0) := nJ_inj (b := 0) (by omega) (by omega)
        simp only [cmp0, zm]
        rw [if_neg m0, if_neg m0, nJ_mod hb' (by omega) (by omega)]
        have hh := half_mod (a := a) (b := b) (by omega) (by omega)
        rw [Nat.pow_succ] at hb
        have e : Nat.gcd (a % b) (b % (a % b)) = Nat.gcd a b := by rw [Nat.gcd_comm a b, Nat.gcd_rec b a, Nat.gcd_rec (a % b) b, Nat.gcd_comm]
        rw [← e] at g0 g1 ⊢
        exact ih (a % b) (b % (a % b)) n (by omega) (by omega) (by omega) (by omega) g0 g1
theorem abs_nJ {t : Int64} (ht : -9223372036854775808 < t.toInt) : (if 0 ≤ t then t else -t) = nJ t.toInt.natAbs := by
  have h1 := t.toInt_lt
  have h2 : (2 : Int) ^ 63 = 9223372036854775808 := by decide
  rw [← Int64.toInt_inj, nJ_toInt (by omega)]
  by_cases q : 0 ≤ t
  · rw [if_pos q]
    rw [Int64.le_iff_toInt_le] at q
    have : (0 : Int64).toInt = 0 := rfl
    omega
  · rw [if_neg q, Int64.toInt_neg, bm64 (by omega) (by omega)]
    rw [Int64.le_iff_toInt_le] at q
    have : (0 : Int64).toInt = 0 := rfl
    omega
theorem eLong_signum (N : Nat) (a : Int64) (h : MH) : f_Long_signum N a h = some (sgn a, h) := by
  unfold f_Long_signum
  congr 2
  have hx : ∀ x : Int64, x >>> (Int32.toInt64 63 &&& 63) = if x < 0 then -1 else 0 := by
    intro x
    show x >>> (63 : Int64) = _
    rw [← Int64.toInt_inj]
    have e1 : (x >>> (63 : Int64)).toInt = x.toInt >>> 63 := by
      rw [← Int64.toInt_toBitVec, Int64.toBitVec_shiftRight]
      show (x.toBitVec.sshiftRight' _).toInt = _
      rw [BitVec.toInt_sshiftRight']
      rfl
    rw [e1, Int.shiftRight_eq_div_pow]
    have h1 := x.toInt_lt
    have h2 := x.le_toInt
    have h0 : (0 : Int64).toInt = 0 := rfl
    by_cases q : x < 0
    · rw [if_pos q]
      rw [Int64.lt_iff_toInt_lt] at q
      show x.toInt / ((2 ^ 63 : Nat) : Int) = -1
      omega
    · rw [if_neg q]
      rw [Int64.lt_iff_toInt_lt] at q
      show x.toInt / ((2 ^ 63 : Nat) : Int) = 0
      omega
  have hy : ∀ x : Int64, ((x.toUInt64 >>> ((Int32.toInt64 63).toUInt64 &&& Int64.toUInt64 63)).toInt64) = if x < 0 then 1 else 0 := by
    intro x
    show ((x.toUInt64 >>> (63 : UInt64)).toInt64) = _
    have e : (x.toUInt64 >>> (63 : UInt64)) = if x < 0 then 1 else 0 := by
      rw [← UInt64.toNat_inj, UInt64.toNat_shiftRight]
      have h1 := x.toInt_lt
      have h2 := x.le_toInt
      have hn : x.toUInt64.toNat = x.toBitVec.toNat := rfl
      have ht : x.toInt = x.toBitVec.toInt := rfl
      rw [BitVec.toInt_eq_toNat_cond] at ht
      have hl := x.toBitVec.isLt
      have h0 : (0 : Int64).toInt = 0 := rfl
      show x.toUInt64.toNat >>> 63 = _
      rw [hn, Nat.shiftRight_eq_div_pow]
      by_cases q : x < 0
      · rw [if_pos q]
        rw [Int64.lt_iff_toInt_lt] at q
        show _ = 1
        split at ht
        · omega
        · omega
      · rw [if_neg q]
        rw [Int64.lt_iff_toInt_lt] at q
        show _ = 0
        split at ht
        · omega
        · omega
    rw [e]
    split <;> rfl
  rw [hx, hy]
  unfold sgn
  have h1 := a.toInt_lt
  have h2 := a.le_toInt
  have h0 : (0 : Int64).toInt = 0 := rfl
  have hn := Int64.toInt_neg a
  by_cases q : a < 0
  · rw [if_pos q, if_neg (Int64.not_lt.mpr (Int64.le_of_lt q)), if_pos q]
    split <;> rfl
  · rw [if_neg q]
    by_cases q2 : 0 < a
    · rw [if_pos q2, if_pos]
      · rfl
      · rw [Int64.lt_iff_toInt_lt] at q2 ⊢
        rw [hn, bm64 (by omega) (by omega)]
        omega
    · have : a = 0 := by
        rw [← Int64.toInt_inj]
        rw [Int64.lt_iff_toInt_lt] at q q2
        omega
      subst this
      rfl
theorem gcd_bd {t d : Int64} (ht : -9223372036854775808 < t.toInt) (hd : 0 < d.toInt) : 0 < Nat.gcd t.toInt.natAbs d.toInt.natAbs ∧ Nat.gcd t.toInt.natAbs d.toInt.natAbs < 9223372036854775808 := by
  have h1 := d.toInt_lt
  have h2 : (2 : Int) ^ 63 = 9223372036854775808 := by decide
  have p : 0 < d.toInt.natAbs := by omega
  exact ⟨Nat.gcd_pos_of_pos_right _ p, Nat.lt_of_le_of_lt (Nat.gcd_le_right _ p) (by omega)⟩
def gg (t d : Int64) : Int64 := nJ (Nat.gcd t.toInt.natAbs d.toInt.natAbs)
theorem eM_fraction {N : Nat} (hN : 200 < N) {t d : Int64} (ht : -9223372036854775808 < t.toInt) (hd : 0 < d.toInt) (h : MH) : f_M_fraction N t d h = some (sgn t, sI (sJ (sJ h 68 1 (t / gg t d)) 68 2 (d / gg t d)) 68 0 0) := by
  have h1 := d.toInt_lt
  have h1' := t.toInt_lt
  have h2 : (2 : Int) ^ 63 = 9223372036854775808 := by decide
  obtain ⟨g0, g1⟩ := gcd_bd ht hd
  have key := lM_fr (N := N) t d h 63 t.toInt.natAbs d.toInt.natAbs (N + 1) (by omega) (by omega) (by omega) (by omega) g0 g1
  have ed : nJ d.toInt.natAbs = d := by
    rw [← Int64.toInt_inj, nJ_toInt (by omega)]; omega
  rw [ed, ← abs_nJ ht] at key
  show F_M_fraction_0 N (L_M_fraction N N) t d h = _
  unfold F_M_fraction_0
  simp only [cmp_ge]
  by_cases q : 0 ≤ t
  · rw [if_pos q] at key ⊢; exact key
  · rw [if_neg q] at key ⊢; exact key
theorem sgn_div {t d : Int64} (ht : -9223372036854775808 < t.toInt) (hd : 0 < d.toInt) : sgn (t / gg t d) = sgn t := by
  have h1 := t.toInt_lt
  have h2 : (2 : Int) ^ 63 = 9223372036854775808 := by decide
  obtain ⟨g0, g1⟩ := gcd_bd ht hd
  obtain ⟨k, hk⟩ := Nat.gcd_dvd_left t.toInt.natAbs d.toInt.natAbs
  have e : (t / gg t d).toInt = t.toInt.tdiv (Nat.gcd t.toInt.natAbs d.toInt.natAbs : Nat) := by
    have hne : t ≠ Int64.minValue := by
      intro q; rw [q] at ht; revert ht; decide
    rw [Int64.toInt_div_of_ne_left _ _ hne]
    unfold gg
    rw [nJ_toInt g1]
  generalize Nat.gcd t.toInt.natAbs d.toInt.natAbs = g at *
  have hz : (0 : Int64).toInt = 0 := rfl
  have e2 : t.toInt = (g : Int) * k ∨ t.toInt = -((g : Int) * k) := by
    have : (t.toInt.natAbs : Int) = (g : Int) * k := by rw [hk]; exact Int.natCast_mul g k
    omega
  have gp : (g : Int) ≠ 0 := by omega
  have e3 : (t.toInt = (g : Int) * k ∧ (t / gg t d).toInt = k) ∨ (t.toInt = -((g : Int) * k) ∧ (t / gg t d).toInt = -k) := by
    rcases e2 with q | q
    · left; refine ⟨q, ?_⟩
      rw [e, q, Int.mul_tdiv_cancel_left _ gp]
    · right; refine ⟨q, ?_⟩
      rw [e, q, Int.neg_tdiv, Int.mul_tdiv_cancel_left _ gp]
  unfold sgn
  simp only [Int64.lt_iff_toInt_lt, hz]
  rcases Nat.eq_zero_or_pos k with k0 | kp
  · subst k0
    have t0 : t.toInt = 0 := by
      rcases e2 with q | q
      · simpa using q
      · simpa using q
    have q0 : (t / gg t d).toInt = 0 := by rcases e3 with ⟨_, q⟩ | ⟨_, q⟩ <;> simpa using q
    rw [t0, q0]
  · have pos : 0 < (g : Int) * k := Int.mul_pos (by omega) (by omega)
    rcases e3 with ⟨q1, q2⟩ | ⟨q1, q2⟩
    · rw [q1, q2, if_pos (by omega), if_pos pos]
    · rw [q1, q2, if_neg (by omega), if_pos (by omega), if_neg (by omega), if_pos (by omega)]
theorem eS_tell {N : Nat} (hN : 200 < N) {t d : Int64} (ht : -9223372036854775808 < t.toInt) (hd : 0 < d.toInt) (h : MH) : f_S_tell N t d h = some (sgn t, sI (sJ (sJ h 1 9 (t / gg t d)) 1 10 (d / gg t d)) 1 12 0) := by
  have h1 := d.toInt_lt
  have h1' := t.toInt_lt
  have h2 : (2 : Int) ^ 63 = 9223372036854775808 := by decide
  obtain ⟨g0, g1⟩ := gcd_bd ht hd
  have key := lS_cd (N := N) h 63 t.toInt.natAbs d.toInt.natAbs 0 (N + 1) (by omega) (by omega) (by omega) (by omega) (by omega)
  have ed : nJ d.toInt.natAbs = d := by
    rw [← Int64.toInt_inj, nJ_toInt (by omega)]; omega
  rw [ed] at key
  have ab : f_Math_abs_J N t h = some (nJ t.toInt.natAbs, h) := by
    unfold f_Math_abs_J
    simp only [cmp_ge]
    rw [← abs_nJ ht]
    split <;> rfl
  unfold f_S_tell
  rw [ab, bnd_some]
  have key' : f_S_commonDivisor N (nJ t.toInt.natAbs) d h = some (gg t d, h) := key
  simp only [key', bnd_some, cmp_le, eLong_signum]
  have gn : ¬ (gg t d ≤ 0) := by
    rw [Int64.le_iff_toInt_le]
    unfold gg
    rw [nJ_toInt g1]
    show ¬ ((_ : Int) ≤ 0)
    omega
  have gz : ¬ (gg t d = 0) := by
    intro q; rw [q] at gn; exact gn (Int64.le_refl _)
  simp only [gn, gz, if_false]
  have e9 : gJ (sJ (sJ h 1 9 (t / gg t d)) 1 10 (d / gg t d)) 1 9 = t / gg t d := rfl
  rw [e9, sgn_div ht hd]
  rfl
theorem Inv_frac {hS hM : MH} (h : Inv2 hS hM) (x y : Int64) : Inv2 (sJ (sJ hS 1 9 x) 1 10 y) (sJ (sJ hM 68 1 x) 68 2 y) := by
  obtain ⟨⟨a1, a2, a3, a4, a5, a6, a7, a8, a9⟩, ⟨G, n, m, ⟨hG, hr, hL, hR, hK⟩⟩, hT, hP, hF, hW⟩ := h
  refine ⟨⟨a1, rfl, rfl, a4, a5, a6, a7, a8, a9⟩, ⟨G, n, m, hG, hr, ?_, hR, hK⟩, ?_, hP, hF, hW⟩
  · rcases hG with ⟨rfl, -⟩ | ⟨rfl, -⟩
    · exact hL
    · exact hL
  · exact hT
/-- a fraction told on both sides -/
theorem OK2_fr {N : Nat} (hN : 200 < N) {hS hM hS' hM' : MH} (h : Inv2 hS hM) (fS : Fr vS hS hS') (fM : Fr vM hM hM') {t d : Int64} (ht : -9223372036854775808 < t.toInt) (hd : 0 < d.toInt) : OK2 hS hM (f_S_tell N t d hS') (f_M_fraction N t d hM') := by
  rw [eS_tell hN ht hd, eM_fraction hN ht hd]
  exact ⟨_, _, _, rfl, rfl, Inv_st (Inv_frac (Inv_vol h fS fM) _ _) 0, (((fS.mono (fun _ _ => vS_le)).sJ 1 9 _ rfl).sJ 1 10 _ rfl).sI 1 12 0 rfl, (((fM.mono (fun _ _ => vM_le)).sJ 68 1 _ rfl).sJ 68 2 _ rfl).sI 68 0 0 rfl⟩
