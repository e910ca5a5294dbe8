/-! SLIPS: which marks are still open, how far a cell may go -/
/-- a mark that no number behind can bring out of what it moved -/
def shut (P : PB) (c : Nat) (x : Nat → Nat) (k : Nat) : Prop := pl P k ≤ ps (pU P) k x c + (mn (pU P) k P.1 - mn (pU P) k c) ∧ ps (pU P) k x c + (mx (pU P) k P.1 - mx (pU P) k c) ≤ pH P k
theorem shut_ok {P : PB} {c : Nat} {x : Nat → Nat} {k : Nat} (hc : c ≤ P.1) (x9 : ∀ i, x i < 10) (h : shut P c x k) : okM P k x := by
  have := ps_rng (U := pU P) (k := k) x9 c (P.1 - c)
  rw [show c + (P.1 - c) = P.1 by omega] at this
  obtain ⟨h1, h2⟩ := h
  constructor
  · omega
  · omega
theorem shut_congr {P : PB} {c : Nat} {x y : Nat → Nat} {k : Nat} (h : ∀ i, i < c → x i = y i) : shut P c x k ↔ shut P c y k := by
  unfold shut; rw [ps_congr h]
def OP (P : PB) (c : Nat) (x : Nat → Nat) (marks m v : Nat) : Prop := v < 256 ∧ ∀ k, k < 8 → (v.testBit k = true ↔ k < m ∧ marks.testBit k = true ∧ ¬ shut P c x k)
theorem eOpen {N : Nat} (hN : 100 < N) {P : PB} {mv : Nat} {c : Nat} (hc : c ≤ P.1) {h : MH} {x : Nat → Nat} (as : AS P mv h) (px : PX P h c x) (x9 : ∀ i, x i < 10) {marks : Nat} (hm : marks < 256) (hsub : ∀ k, marks.testBit k = true → mv.testBit k = true) : ∃ v, f_Asked_stillOpen N (nI c) (nI marks) h = some (nI v, h) ∧ OP P c x marks P.2.1 v := by
  obtain ⟨p1, p2, p3, p4, p5, p6, p7, p8⟩ := id as
  have main : ∀ (e k f v : Nat), k + e = P.2.1 → e < f → OP P c x marks k v → ∃ w, L_Asked_stillOpen N f (nI c) (nI marks) (nI v) (nI k) h = some (nI w, h) ∧ OP P c x marks P.2.1 w := by
    intro e
    induction e with
    | zero =>
      intro k f v he hf ho
      obtain ⟨f, rfl⟩ : ∃ z, f = z + 1 := ⟨f - 1, by omega⟩
      refine ⟨v, ?_, by rw [show P.2.1 = k by omega]; exact ho⟩
      show F_Asked_stillOpen_5 N (L_Asked_stillOpen N f) _ _ _ (nI k) h = _
      unfold F_Asked_stillOpen_5
      rw [p4, if_pos (by rw [nN_le (by omega) (by omega)]; omega)]
    | succ e ih =>
      intro k f v he hf ho
      obtain ⟨f, rfl⟩ : ∃ z, f = z + 1 := ⟨f - 1, by omega⟩
      show ∃ w, F_Asked_stillOpen_5 N (L_Asked_stillOpen N f) (nI c) (nI marks) (nI v) (nI k) h = _ ∧ _
      unfold F_Asked_stillOpen_5 F_Asked_stillOpen_82
      have k8 : k < 8 := by omega
      have stay : ¬ (marks.testBit k = true ∧ ¬ shut P c x k) → OP P c x marks (k + 1) v := fun q => ⟨ho.1, fun j hj => by
        rw [ho.2 j hj]
        constructor
        · rintro ⟨a, b⟩; exact ⟨by omega, b⟩
        · rintro ⟨a, b⟩
          refine ⟨?_, b⟩
          by_cases z : j = k
          · subst z; exact absurd b q
          · omega⟩
      have take : marks.testBit k = true → ¬ shut P c x k → OP P c x marks (k + 1) (v ||| 2 ^ k) := fun q1 q2 => ⟨or_lt ho.1 (Nat.lt_of_lt_of_le (Nat.pow_lt_pow_right (a := 2) (by omega) k8) (by omega)), fun j hj => by
        rw [tb_or2, Bool.or_eq_true, ho.2 j hj, decide_eq_true_eq]
        constructor
        · rintro (⟨a, b⟩ | z)
          · exact ⟨by omega, b⟩
          · subst z; exact ⟨by omega, q1, q2⟩
        · rintro ⟨a, b⟩
          by_cases z : k = j
          · exact .inr z
          · exact .inl ⟨by omega, b⟩⟩
      rw [p4, if_neg (by rw [nN_le (by omega) (by omega)]; omega), L8, nN_mul, nN_add, show nI k + 1 = nI (k + 1) from nN_add k 1, Nat.mul_comm c 8]
      simp only [bit0 hm k8]
      by_cases b : marks.testBit k = false
      · rw [if_pos b]
        exact ih (k + 1) f v (by omega) (by omega) (stay (by rw [b]; simp))
      · have bt : marks.testBit k = true := by cases z : marks.testBit k; exact absurd z b; rfl
        have ib : inB (nI (8 * c + k)) 56 = true := by rw [inB_nI (by omega)]; omega
        have ib2 : inB (nI k) 8 = true := by rw [inB_nI (by omega)]; omega
        rw [if_neg b]
        simp only [ib, ib2, if_true]
        rw [iN_nI (by omega), iN_nI (by omega), shl_n (by omega), nI_or]
        obtain ⟨l1, l2, l3, l4⟩ := p7 k (by omega) (hsub k bt)
        obtain ⟨r1, r2⟩ := p8 c k hc k8
        have s1 := px.2 c k (Nat.le_refl _) (by omega)
        have hU : ∀ c, c < 6 → (pU P c k).natAbs ≤ 9 := fun c hc => (p5 c k hc k8).2
        have b1 := ps_bd (k := k) (x := x) hU (fun c _ => x9 c) c (by omega)
        have b2 := mn_bd (k := k) hU c (by omega)
        have b3 := mn_bd (k := k) hU P.1 (by omega)
        have c1 : (gI h 41 (8 * c + k) + gI h 38 (8 * c + k) < gI h 36 k) = (ps (pU P) k x c + (mn (pU P) k P.1 - mn (pU P) k c) < pl P k) := by
          rw [Int32.lt_iff_toInt_lt, i_add (by rw [s1, r1]; omega) (by rw [s1, r1]; omega), s1, r1, l1]
        have c2 : (gI h 41 (8 * c + k) + gI h 39 (8 * c + k) ≤ gI h 37 k) = (ps (pU P) k x c + (mx (pU P) k P.1 - mx (pU P) k c) ≤ pH P k) := by
          rw [Int32.le_iff_toInt_le, i_add (by rw [s1, r2]; omega) (by rw [s1, r2]; omega), s1, r2, l2]
        simp only [c1, c2]
        by_cases d1 : ps (pU P) k x c + (mn (pU P) k P.1 - mn (pU P) k c) < pl P k
        · rw [if_pos d1]
          exact ih (k + 1) f _ (by omega) (by omega) (take bt (fun q => by have := q.1; omega))
        · rw [if_neg d1]
          by_cases d2 : ps (pU P) k x c + (mx (pU P) k P.1 - mx (pU P) k c) ≤ pH P k
          · rw [if_pos d2]
            exact ih (k + 1) f v (by omega) (by omega) (stay (fun q => q.2 ⟨by omega, d2⟩))
          · rw [if_neg d2]
            exact ih (k + 1) f _ (by omega) (by omega) (take bt (fun q => d2 q.2))
  exact main P.2.1 0 (N + 1) 0 (by omega) (by omega) ⟨by omega, fun k hk => by simp⟩
/-- no cell from c on is held by one beside it -/
def loose (P : PB) (s c : Nat) : Prop := 9 ≤ s ∨ ∀ o, c ≤ o → o < P.1 → ∀ b, b < 6 → pN P o b = false
theorem eLoose {N : Nat} (hN : 100 < N) {P : PB} {mv : Nat} {c s : Nat} (hs : s ≤ 9) (hc : c ≤ P.1) {h : MH} (as : AS P mv h) (hsm : gI h 42 0 = nI s) : ∃ v, f_Walk_isLoose N (nI c) h = some (v, h) ∧ ((v = 1 ∧ loose P s c) ∨ (v = 0 ∧ ¬ loose P s c)) := by
  obtain ⟨p1, p2, p3, p4, p5, p6, -⟩ := id as
  show ∃ v, F_Walk_isLoose_0 N (L_Walk_isLoose N N) (nI c) h = some (v, h) ∧ _
  unfold F_Walk_isLoose_0
  rw [hsm]
  by_cases g : s < 9
  · rw [if_pos (by rw [L9, nN_lt (by omega) (by omega)]; exact g)]
    have main : ∀ (e o f : Nat), o + e = P.1 → e < f → c ≤ o → (∀ i, c ≤ i → i < o → ∀ b, b < 6 → pN P i b = false) → ∃ v, L_Walk_isLoose N f (nI o) h = some (v, h) ∧ ((v = 1 ∧ loose P s c) ∨ (v = 0 ∧ ¬ loose P s c)) := by
      intro e
      induction e with
      | zero =>
        intro o f he hf ho hq
        obtain ⟨f, rfl⟩ : ∃ z, f = z + 1 := ⟨f - 1, by omega⟩
        refine ⟨1, ?_, .inl ⟨rfl, .inr (fun i i1 i2 => hq i i1 (by omega))⟩⟩
        show F_Walk_isLoose_13 N (L_Walk_isLoose N f) (nI o) h = _
        unfold F_Walk_isLoose_13
        rw [p3, if_pos (by rw [nN_le (by omega) (by omega)]; omega)]
      | succ e ih =>
        intro o f he hf ho hq
        obtain ⟨f, rfl⟩ : ∃ z, f = z + 1 := ⟨f - 1, by omega⟩
        show ∃ v, F_Walk_isLoose_13 N (L_Walk_isLoose N f) (nI o) h = some (v, h) ∧ _
        unfold F_Walk_isLoose_13
        obtain ⟨st, st1, st2, st3⟩ := p6 o (by omega)
        rw [p3, if_neg (by rw [nN_le (by omega) (by omega)]; omega), if_pos (by rw [inB_nI (by omega)]; omega), iN_nI (by omega), st2, show nI o + 1 = nI (o + 1) from nN_add o 1]
        have ez : (nI st = 0) = (st = 0) := nN_inj (b := 0) (by omega) (by omega)
        simp only [ez]
        by_cases z : st = 0
        · rw [if_pos z]
          refine ih (o + 1) f (by omega) (by omega) (by omega) (fun i i1 i2 b hb => ?_)
          by_cases q : i = o
          · rw [q, ← st3 b hb, z, Nat.zero_testBit]
          · exact hq i i1 (by omega) b hb
        · rw [if_neg z]
          refine ⟨0, rfl, .inr ⟨rfl, ?_⟩⟩
          rintro (q | q)
          · omega
          · apply z
            apply Nat.eq_of_testBit_eq
            intro b
            rw [Nat.zero_testBit]
            by_cases hb : b < 6
            · rw [st3 b hb]; exact q o ho (by omega) b hb
            · exact Nat.testBit_lt_two_pow (Nat.lt_of_lt_of_le st1 (Nat.pow_le_pow_right (n := 2) (i := 6) (by omega) (by omega)))
    exact main (P.1 - c) c (N + 1) (by omega) (by omega) (Nat.le_refl _) (fun i i1 i2 => by omega)
  · rw [if_neg (by rw [L9, nN_lt (by omega) (by omega)]; exact g)]
    exact ⟨1, rfl, .inl ⟨rfl, .inl (by omega)⟩⟩
theorem msb_i (x : Int32) : (0 ≤ x) = (x.toBitVec.msb = false) := by
  rw [Int32.le_iff_toInt_le, show (0 : Int32).toInt = 0 from rfl]
  show (0 ≤ x.toBitVec.toInt) = _
  exact propext (by rw [BitVec.msb_eq_toInt, decide_eq_false_iff_not, Int.not_lt])
theorem eFloor {N : Nat} {a b : Int32} (hb : 0 < b.toInt) (ha : a.toInt.natAbs ≤ 1000000) (h : MH) : ∃ q, f_Math_floorDiv N a b h = some (q, h) ∧ q.toInt = a.toInt / b.toInt := by
  unfold f_Math_floorDiv
  have b0 : ¬ b = 0 := by intro z; rw [z] at hb; revert hb; decide
  have z0 : (0 : Int32).toInt = 0 := rfl
  rw [if_neg b0]
  have td : (a / b).toInt = a.toInt.tdiv b.toInt := by
    have := Int.natAbs_tdiv_le_natAbs a.toInt b.toInt
    rw [Int32.toInt_div, bm32 (by omega) (by omega)]
  have tb := Int.natAbs_tdiv_le_natAbs a.toInt b.toInt
  have bl := b.toInt_lt
  have xs : (0 ≤ a ^^^ b) = (0 ≤ a) := by
    rw [msb_i, msb_i, Int32.toBitVec_xor, BitVec.msb_xor]
    have hbm : b.toBitVec.msb = false := by
      rw [← msb_i, Int32.le_iff_toInt_le, z0]; omega
    rw [hbm]; simp
  simp only [xs]
  by_cases c1 : 0 ≤ a
  · rw [if_pos c1]
    rw [Int32.le_iff_toInt_le, z0] at c1
    exact ⟨_, rfl, by rw [td, Int.tdiv_eq_ediv_of_nonneg c1]⟩
  · rw [if_neg c1]
    rw [Int32.le_iff_toInt_le, z0] at c1
    have rec1 := Int.mul_tdiv_add_tmod a.toInt b.toInt
    have tm1 := Int.tmod_lt_of_pos a.toInt hb
    have tm2 : -b.toInt < a.toInt.tmod b.toInt := by
      have := Int.lt_tmod_of_pos a.toInt hb
      exact this
    have tm3 : a.toInt.tmod b.toInt ≤ 0 := by
      have := Int.tmod_nonneg b.toInt (a := -a.toInt) (by omega)
      rw [Int.neg_tmod] at this
      omega
    have mm : (a / b * b).toInt = b.toInt * a.toInt.tdiv b.toInt := by
      have e : a.toInt.tdiv b.toInt * b.toInt = b.toInt * a.toInt.tdiv b.toInt := Int.mul_comm _ _
      rw [i_mul, td, e] <;> rw [td, e] <;> omega
    have me : (a / b * b = a) = (b.toInt * a.toInt.tdiv b.toInt = a.toInt) := by rw [← Int32.toInt_inj, mm]
    simp only [me]
    by_cases c2 : b.toInt * a.toInt.tdiv b.toInt = a.toInt
    · rw [if_pos c2]
      refine ⟨_, rfl, ?_⟩
      rw [td]
      have : a.toInt / b.toInt = a.toInt.tdiv b.toInt := by
        rw [Int.ediv_eq_iff_of_pos hb]
        constructor
        · rw [Int.mul_comm]; omega
        · rw [Int.mul_comm]; omega
      rw [this]
    · rw [if_neg c2]
      refine ⟨_, rfl, ?_⟩
      have o1 : (1 : Int32).toInt = 1 := rfl
      rw [i_sub (by rw [td, o1]; omega) (by rw [td, o1]; omega), td, o1]
      have : a.toInt / b.toInt = a.toInt.tdiv b.toInt - 1 := by
        rw [Int.ediv_eq_iff_of_pos hb]
        have e : (a.toInt.tdiv b.toInt - 1) * b.toInt = b.toInt * a.toInt.tdiv b.toInt - b.toInt := by rw [Int.sub_mul, Int.mul_comm]; omega
        constructor
        · rw [e]; omega
        · rw [e]; omega
      rw [this]
theorem mxI {N : Nat} (a b : Int32) (h : MH) : ∃ q, f_Math_max N a b h = some (q, h) ∧ q.toInt = max a.toInt b.toInt := by
  unfold f_Math_max
  by_cases c : a < b
  · rw [if_pos c]
    rw [Int32.lt_iff_toInt_lt] at c
    exact ⟨b, rfl, by omega⟩
  · rw [if_neg c]
    rw [Int32.lt_iff_toInt_lt] at c
    exact ⟨a, rfl, by omega⟩
theorem mnI2 {N : Nat} (a b : Int32) (h : MH) : ∃ q, f_Math_min_II N a b h = some (q, h) ∧ q.toInt = min a.toInt b.toInt := by
  unfold f_Math_min_II
  by_cases c : b < a
  · rw [if_pos c]
    rw [Int32.lt_iff_toInt_lt] at c
    exact ⟨b, rfl, by omega⟩
  · rw [if_neg c]
    rw [Int32.lt_iff_toInt_lt] at c
    exact ⟨a, rfl, by omega⟩
theorem negI {a : Int32} (h : a.toInt.natAbs ≤ 1000000) : (-a).toInt = -a.toInt := by rw [Int32.toInt_neg, bm32 (by omega) (by omega)]
theorem ediv_bd {a b : Int} (hb : 0 < b) {A : Nat} (ha : a.natAbs ≤ A) : (a / b).natAbs ≤ A := by
  have h1 : -(A : Int) ≤ a / b := (Int.le_ediv_iff_mul_le hb).mpr (by
    have : -(A : Int) * b ≤ -(A : Int) * 1 := Int.mul_le_mul_of_nonpos_left (by omega) (by omega)
    omega)
  have h2 : a / b ≤ A := (Int.ediv_le_iff_le_mul hb).mpr (by
    have : (A : Int) * 1 ≤ (A : Int) * b := Int.mul_le_mul_of_nonneg_left (by omega) (by omega)
    omega)
  omega
/-- one mark narrows what a cell may slip -/
theorem eNarrowBy {N : Nat} {c : Nat} (hc : c < 6) {u lw hg : Int32} (hu : u.toInt.natAbs ≤ 9) (hl : lw.toInt.natAbs ≤ 200000) (hh : hg.toInt.natAbs ≤ 200000) {h : MH} (f0 : 0 ≤ (gI h 44 c).toInt) (f1 : (gI h 44 c).toInt ≤ 200000) (t0 : (gI h 45 c).toInt.natAbs ≤ 200000) : ∃ h', f_Walk_narrowBy N (nI c) u lw hg h = some h' ∧ Fr (fun a b => (a == 44 || a == 45) && b == c) h h' ∧ (0 ≤ (gI h' 44 c).toInt ∧ (gI h' 44 c).toInt ≤ 200000) ∧ (gI h' 45 c).toInt.natAbs ≤ 200000 ∧ ∀ d : Nat, ((gI h' 44 c).toInt ≤ d ∧ (d : Int) ≤ (gI h' 45 c).toInt) ↔ ((gI h 44 c).toInt ≤ d ∧ (d : Int) ≤ (gI h 45 c).toInt ∧ lw.toInt ≤ u.toInt * d ∧ u.toInt * d ≤ hg.toInt) := by
  have ib : inB (nI c) 6 = true := by rw [inB_nI (by omega)]; exact hc
  have z0 : (0 : Int32).toInt = 0 := rfl
  have m1 : (-1 : Int32).toInt = -1 := rfl
  -- the common end: new from, new to
  have fin : ∀ (A B : Int32), (0 ≤ A.toInt ∧ A.toInt ≤ 200000) → B.toInt.natAbs ≤ 200000 → (∀ d : Nat, (A.toInt ≤ d ∧ (d : Int) ≤ B.toInt) ↔ ((gI h 44 c).toInt ≤ d ∧ (d : Int) ≤ (gI h 45 c).toInt ∧ lw.toInt ≤ u.toInt * d ∧ u.toInt * d ≤ hg.toInt)) → ∃ h', some (sI (sI h 44 c A) 45 c B) = some h' ∧ Fr (fun a b => (a == 44 || a == 45) && b == c) h h' ∧ (0 ≤ (gI h' 44 c).toInt ∧ (gI h' 44 c).toInt ≤ 200000) ∧ (gI h' 45 c).toInt.natAbs ≤ 200000 ∧ ∀ d : Nat, ((gI h' 44 c).toInt ≤ d ∧ (d : Int) ≤ (gI h' 45 c).toInt) ↔ ((gI h 44 c).toInt ≤ d ∧ (d : Int) ≤ (gI h 45 c).toInt ∧ lw.toInt ≤ u.toInt * d ∧ u.toInt * d ≤ hg.toInt) := by
    intro A B hA hB hq
    have e1 : gI (sI (sI h 44 c A) 45 c B) 44 c = A := by rw [gI_sI, gI_sI]; simp
    have e2 : gI (sI (sI h 44 c A) 45 c B) 45 c = B := by rw [gI_sI]; simp
    exact ⟨_, rfl, (Fr.rfl.sI 44 c _ (by simp)).sI 45 c _ (by simp), by rw [e1]; exact hA, by rw [e2]; exact hB, by rw [e1, e2]; exact hq⟩
  unfold f_Walk_narrowBy
  rw [iN_nI (by omega)]
  simp only [ib, if_true]
  have s45 : ∀ v, gI (sI h 44 c v) 45 c = gI h 45 c := fun v => rfl
  by_cases c1 : u ≤ 0
  · rw [if_pos c1]
    rw [Int32.le_iff_toInt_le, z0] at c1
    by_cases c2 : 0 ≤ u
    · rw [if_pos c2]
      rw [Int32.le_iff_toInt_le, z0] at c2
      have u0 : u.toInt = 0 := by omega
      -- no unit at all
      have out : (0 < lw.toInt ∨ hg.toInt < 0) → ∃ h', some (sI h 45 c (-1)) = some h' ∧ Fr (fun a b => (a == 44 || a == 45) && b == c) h h' ∧ (0 ≤ (gI h' 44 c).toInt ∧ (gI h' 44 c).toInt ≤ 200000) ∧ (gI h' 45 c).toInt.natAbs ≤ 200000 ∧ ∀ d : Nat, ((gI h' 44 c).toInt ≤ d ∧ (d : Int) ≤ (gI h' 45 c).toInt) ↔ ((gI h 44 c).toInt ≤ d ∧ (d : Int) ≤ (gI h 45 c).toInt ∧ lw.toInt ≤ u.toInt * d ∧ u.toInt * d ≤ hg.toInt) := by
        intro q
        have e1 : gI (sI h 45 c (-1)) 44 c = gI h 44 c := rfl
        have e2 : gI (sI h 45 c (-1)) 45 c = -1 := by rw [gI_sI]; simp
        refine ⟨_, rfl, Fr.rfl.sI 45 c _ (by simp), by rw [e1]; exact ⟨f0, f1⟩, by rw [e2, m1]; decide, fun d => ?_⟩
        rw [e1, e2, m1, u0, Int.zero_mul]
        constructor
        · rintro ⟨-, z⟩; omega
        · rintro ⟨-, -, z1, z2⟩; omega
      by_cases c3 : 0 < lw
      · rw [if_pos c3]
        rw [Int32.lt_iff_toInt_lt, z0] at c3
        exact out (.inl c3)
      · rw [if_neg c3]
        rw [Int32.lt_iff_toInt_lt, z0] at c3
        by_cases c4 : 0 ≤ hg
        · rw [if_pos c4]
          rw [Int32.le_iff_toInt_le, z0] at c4
          refine ⟨h, rfl, Fr.rfl, ⟨f0, f1⟩, t0, fun d => ?_⟩
          rw [u0, Int.zero_mul]
          constructor
          · rintro ⟨a, b⟩; exact ⟨a, b, by omega, by omega⟩
          · rintro ⟨a, b, -⟩; exact ⟨a, b⟩
        · rw [if_neg c4]
          rw [Int32.le_iff_toInt_le, z0] at c4
          exact out (.inr (by omega))
    · rw [if_neg c2]
      rw [Int32.le_iff_toInt_le, z0] at c2
      have nu : (-u).toInt = -u.toInt := negI (by omega)
      have nl : (-lw).toInt = -lw.toInt := negI (by omega)
      have hp : 0 < -u.toInt := by omega
      obtain ⟨q1, a1, a2⟩ := eFloor (N := N) (a := hg) (b := -u) (by rw [nu]; omega) (by omega) h
      rw [a1, bnd_some]
      dsimp only
      rw [nu] at a2
      have b1 := ediv_bd hp hh
      have nq : (-q1).toInt = -q1.toInt := negI (by rw [a2]; omega)
      obtain ⟨q2, a3, a4⟩ := mxI (N := N) (gI h 44 c) (-q1) h
      rw [a3, bnd_some]
      dsimp only
      obtain ⟨q3, a5, a6⟩ := eFloor (N := N) (a := -lw) (b := -u) (by rw [nu]; omega) (by rw [nl]; omega) (sI h 44 c q2)
      rw [a5, bnd_some]
      dsimp only
      rw [nu, nl] at a6
      have b2 := ediv_bd hp (a := -lw.toInt) (A := 200000) (by omega)
      obtain ⟨q4, a7, a8⟩ := mnI2 (N := N) (gI (sI h 44 c q2) 45 c) q3 (sI h 44 c q2)
      rw [a7, bnd_some]
      rw [s45] at a8
      dsimp only
      refine fin q2 q4 ⟨by rw [a4]; omega, by rw [a4, nq, a2]; omega⟩ (by rw [a8, a6]; omega) (fun d => ?_)
      rw [a4, a8, nq, a2, a6]
      have k1 : (d : Int) ≤ -lw.toInt / -u.toInt ↔ lw.toInt ≤ u.toInt * d := by
        rw [Int.le_ediv_iff_mul_le hp, Int.mul_neg, Int.mul_comm]
        omega
      have k2 : -(hg.toInt / -u.toInt) ≤ (d : Int) ↔ u.toInt * d ≤ hg.toInt := by
        have : -(d : Int) ≤ hg.toInt / -u.toInt ↔ -(d : Int) * -u.toInt ≤ hg.toInt := Int.le_ediv_iff_mul_le hp
        rw [Int.neg_mul_neg, Int.mul_comm] at this
        rw [← this]; omega
      omega
  · rw [if_neg c1]
    rw [Int32.le_iff_toInt_le, z0] at c1
    have nl : (-lw).toInt = -lw.toInt := negI (by omega)
    have hp : 0 < u.toInt := by omega
    obtain ⟨q1, a1, a2⟩ := eFloor (N := N) (a := -lw) (b := u) (by omega) (by rw [nl]; omega) h
    rw [a1, bnd_some]
    dsimp only
    rw [nl] at a2
    have b1 := ediv_bd hp (a := -lw.toInt) (A := 200000) (by omega)
    have nq : (-q1).toInt = -q1.toInt := negI (by rw [a2]; omega)
    obtain ⟨q2, a3, a4⟩ := mxI (N := N) (gI h 44 c) (-q1) h
    rw [a3, bnd_some]
    dsimp only
    obtain ⟨q3, a5, a6⟩ := eFloor (N := N) (a := hg) (b := u) (by omega) (by omega) (sI h 44 c q2)
    rw [a5, bnd_some]
    dsimp only
    have b2 := ediv_bd hp hh
    obtain ⟨q4, a7, a8⟩ := mnI2 (N := N) (gI (sI h 44 c q2) 45 c) q3 (sI h 44 c q2)
    rw [a7, bnd_some]
    rw [s45] at a8
    dsimp only
    refine fin q2 q4 ⟨by rw [a4]; omega, by rw [a4, nq, a2]; omega⟩ (by rw [a8, a6]; omega) (fun d => ?_)
    rw [a4, a8, nq, a2, a6]
    have k1 : (d : Int) ≤ hg.toInt / u.toInt ↔ u.toInt * d ≤ hg.toInt := by
      rw [Int.le_ediv_iff_mul_le hp, Int.mul_comm]
    have k2 : -(-lw.toInt / u.toInt) ≤ (d : Int) ↔ lw.toInt ≤ u.toInt * d := by
      have : -(d : Int) ≤ -lw.toInt / u.toInt ↔ -(d : Int) * u.toInt ≤ -lw.toInt := Int.le_ediv_iff_mul_le hp
      rw [Int.neg_mul, Int.mul_comm] at this
      omega
    omega
