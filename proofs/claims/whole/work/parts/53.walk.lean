/-! SLIPS: what a cell may slip; what the walk has seen -/
def nearOK (P : PB) (s c : Nat) (x : Nat → Nat) (d : Nat) : Prop := ∀ o, o < c → pN P c o = true → x o ≤ d + s ∧ d ≤ x o + s
def markOK (P : PB) (c : Nat) (x : Nat → Nat) (k d : Nat) : Prop := pl P k - ps (pU P) k x c - (mx (pU P) k P.1 - mx (pU P) k (c + 1)) ≤ pU P c k * d ∧ pU P c k * d ≤ pH P k - ps (pU P) k x c - (mn (pU P) k P.1 - mn (pU P) k (c + 1))
theorem eNarrow {N : Nat} (hN : 100 < N) {P : PB} {mv : Nat} {c s : Nat} (hs : s ≤ 9) (hc : c < P.1) {h : MH} {x : Nat → Nat} (as : AS P mv h) (px : PX P h c x) (x9 : ∀ i, x i < 10) (hsm : gI h 42 0 = nI s) {op : Nat} (ho : op < 256) (hsub : ∀ k, op.testBit k = true → k < P.2.1 ∧ mv.testBit k = true) :
    ∃ h', f_Walk_narrow N (nI c) (nI op) h = some h' ∧ Fr (fun a b => (a == 44 || a == 45) && b == c) h h' ∧ (0 ≤ (gI h' 44 c).toInt ∧ (gI h' 44 c).toInt ≤ 200000) ∧ (gI h' 45 c).toInt.natAbs ≤ 200000 ∧ ∀ d : Nat, ((gI h' 44 c).toInt ≤ d ∧ (d : Int) ≤ (gI h' 45 c).toInt) ↔ (d ≤ 9 ∧ nearOK P s c x d ∧ ∀ k, k < P.2.1 → op.testBit k = true → markOK P c x k d) := by
  obtain ⟨p1, p2, p3, p4, p5, p6, p7, p8⟩ := id as
  have c6 : c < 6 := by omega
  obtain ⟨l, l1, l2, l3⟩ := eLeast (N := N) hN c6 hs as px.1 x9
  have fr1 : Fr (fun a b => (a == 44 || a == 45) && b == c) h (sI h 44 c (nI l)) := Fr.rfl.sI 44 c _ (by simp)
  have toW : ∀ {a b}, wW a b = false → (fun a b => (a == 44 || a == 45) && b == c) a b = false := fun {a b} q => by simp [wW] at q; simp; omega
  have as1 := AS_fr as (fr1.mono (fun _ _ => toW))
  have px1 : ∀ i, i < c → gI (sI h 44 c (nI l)) 40 i = nI (x i) := px.1
  obtain ⟨t, t1, t2, t3⟩ := eMost (N := N) hN c6 hs as1 px1 x9
  have fr2 : Fr (fun a b => (a == 44 || a == 45) && b == c) h (sI (sI h 44 c (nI l)) 45 c (nI t)) := fr1.sI 45 c _ (by simp)
  have main : ∀ (e k f : Nat) (y : MH), k + e = P.2.1 → e < f → Fr (fun a b => (a == 44 || a == 45) && b == c) h y → (0 ≤ (gI y 44 c).toInt ∧ (gI y 44 c).toInt ≤ 200000) → (gI y 45 c).toInt.natAbs ≤ 200000 → (∀ d : Nat, ((gI y 44 c).toInt ≤ d ∧ (d : Int) ≤ (gI y 45 c).toInt) ↔ (d ≤ 9 ∧ nearOK P s c x d ∧ ∀ j, j < k → op.testBit j = true → markOK P c x j d)) →
      ∃ h', L_Walk_narrow N f (nI c) (nI op) (nI k) y = some h' ∧ Fr (fun a b => (a == 44 || a == 45) && b == c) h h' ∧ (0 ≤ (gI h' 44 c).toInt ∧ (gI h' 44 c).toInt ≤ 200000) ∧ (gI h' 45 c).toInt.natAbs ≤ 200000 ∧ ∀ d : Nat, ((gI h' 44 c).toInt ≤ d ∧ (d : Int) ≤ (gI h' 45 c).toInt) ↔ (d ≤ 9 ∧ nearOK P s c x d ∧ ∀ k, k < P.2.1 → op.testBit k = true → markOK P c x k d) := by
    intro e
    induction e with
    | zero =>
      intro k f y he hf fr y1 y2 y3
      obtain ⟨f, rfl⟩ : ∃ z, f = z + 1 := ⟨f - 1, by omega⟩
      refine ⟨y, ?_, fr, y1, y2, by rw [show P.2.1 = k by omega]; exact y3⟩
      show F_Walk_narrow_33 N (L_Walk_narrow N f) _ _ (nI k) y = _
      unfold F_Walk_narrow_33
      rw [(AS_fr as (fr.mono (fun _ _ => toW))).2.2.2.1, if_pos (by rw [nN_le (by omega) (by omega)]; omega)]
    | succ e ih =>
      intro k f y he hf fr y1 y2 y3
      obtain ⟨f, rfl⟩ : ∃ z, f = z + 1 := ⟨f - 1, by omega⟩
      have asy := AS_fr as (fr.mono (fun _ _ => toW))
      show ∃ h', F_Walk_narrow_33 N (L_Walk_narrow N f) (nI c) (nI op) (nI k) y = some h' ∧ _
      unfold F_Walk_narrow_33
      dsimp only
      rw [asy.2.2.2.1, if_neg (by rw [nN_le (by omega) (by omega)]; omega), L8, nN_mul, nN_add, nN_add, show nI k + 1 = nI (k + 1) from nN_add k 1, Nat.mul_comm c 8]
      simp only [bit0 ho (show k < 8 by omega)]
      by_cases b : op.testBit k = false
      · rw [if_pos b]
        refine ih (k + 1) f y (by omega) (by omega) fr y1 y2 (fun d => ?_)
        rw [y3 d]
        constructor
        · rintro ⟨q1, q2, q3⟩
          refine ⟨q1, q2, fun j j1 j2 => ?_⟩
          by_cases z : j = k
          · rw [z, b] at j2; cases j2
          · exact q3 j (by omega) j2
        · rintro ⟨q1, q2, q3⟩
          exact ⟨q1, q2, fun j j1 => q3 j (by omega)⟩
      · have bt : op.testBit k = true := by cases z : op.testBit k; exact absurd z b; rfl
        have k8 : k < 8 := by omega
        have i1 : inB (nI (8 * c + k)) 48 = true := by rw [inB_nI (by omega)]; omega
        have i2 : inB (nI (8 * c + k)) 56 = true := by rw [inB_nI (by omega)]; omega
        have i3 : inB (nI (8 * c + k + 8)) 56 = true := by rw [inB_nI (by omega)]; omega
        have i4 : inB (nI k) 8 = true := by rw [inB_nI (by omega)]; omega
        rw [if_neg b]
        simp only [i1, i2, i3, i4, if_true]
        rw [iN_nI (by omega), iN_nI (by omega), iN_nI (by omega), show 8 * c + k + 8 = 8 * (c + 1) + k by omega]
        obtain ⟨u1, u2⟩ := asy.2.2.2.2.1 c k c6 k8
        obtain ⟨v1, v2, v3, v4⟩ := asy.2.2.2.2.2.2.1 k (by omega) (hsub k bt).2
        obtain ⟨r1, r2⟩ := asy.2.2.2.2.2.2.2 (c + 1) k (by omega) k8
        have s1 : (gI y 41 (8 * c + k)).toInt = ps (pU P) k x c := by rw [fr.i 41 _ (by simp)]; exact px.2 c k (Nat.le_refl _) (by omega)
        have hU : ∀ c, c < 6 → (pU P c k).natAbs ≤ 9 := fun c hc => (p5 c k hc k8).2
        have b1 := ps_bd (k := k) (x := x) hU (fun c _ => x9 c) c (by omega)
        have b2 := mn_bd (k := k) hU (c + 1) (by omega)
        have b3 := mn_bd (k := k) hU P.1 (by omega)
        have w1 : (gI y 36 k - gI y 41 (8 * c + k) - gI y 39 (8 * (c + 1) + k)).toInt = pl P k - ps (pU P) k x c - (mx (pU P) k P.1 - mx (pU P) k (c + 1)) := by
          have e1 : (gI y 36 k - gI y 41 (8 * c + k)).toInt = pl P k - ps (pU P) k x c := by rw [i_sub, v1, s1] <;> rw [v1, s1] <;> omega
          rw [i_sub, e1, r2] <;> rw [e1, r2] <;> omega
        have w2 : (gI y 37 k - gI y 41 (8 * c + k) - gI y 38 (8 * (c + 1) + k)).toInt = pH P k - ps (pU P) k x c - (mn (pU P) k P.1 - mn (pU P) k (c + 1)) := by
          have e1 : (gI y 37 k - gI y 41 (8 * c + k)).toInt = pH P k - ps (pU P) k x c := by rw [i_sub, v2, s1] <;> rw [v2, s1] <;> omega
          rw [i_sub, e1, r1] <;> rw [e1, r1] <;> omega
        obtain ⟨z, a1, a2, a3, a4, a5⟩ := eNarrowBy (N := N) (c := c) c6 (u := gI y 34 (8 * c + k)) (lw := gI y 36 k - gI y 41 (8 * c + k) - gI y 39 (8 * (c + 1) + k)) (hg := gI y 37 k - gI y 41 (8 * c + k) - gI y 38 (8 * (c + 1) + k)) (by rw [u1]; exact u2) (by rw [w1]; omega) (by rw [w2]; omega) (h := y) y1.1 y1.2 y2
        rw [a1, bnd_some]
        refine ih (k + 1) f z (by omega) (by omega) (fr.trans a2) a3 a4 (fun d => ?_)
        rw [a5 d, w1, w2, u1]
        have y3d := y3 d
        constructor
        · rintro ⟨q1, q2, q3, q4⟩
          obtain ⟨o1, o2, o3⟩ := y3d.mp ⟨q1, q2⟩
          refine ⟨o1, o2, fun j j1 j2 => ?_⟩
          by_cases zz : j = k
          · rw [zz]; exact ⟨q3, q4⟩
          · exact o3 j (by omega) j2
        · rintro ⟨q1, q2, q3⟩
          obtain ⟨o1, o2⟩ := y3d.mpr ⟨q1, q2, fun j j1 => q3 j (by omega)⟩
          obtain ⟨o3, o4⟩ := q3 k (by omega) bt
          exact ⟨o1, o2, o3, o4⟩
  have e44 : gI (sI (sI h 44 c (nI l)) 45 c (nI t)) 44 c = nI l := by rw [gI_sI, gI_sI]; simp
  have e45 : gI (sI (sI h 44 c (nI l)) 45 c (nI t)) 45 c = nI t := by rw [gI_sI]; simp
  have key := main P.2.1 0 (N + 1) (sI (sI h 44 c (nI l)) 45 c (nI t)) (by omega) (by omega) fr2 (by rw [e44, nN_toInt (by omega)]; omega) (by rw [e45, nN_toInt (by omega)]; omega) (fun d => by
    rw [e44, e45, nN_toInt (by omega), nN_toInt (by omega)]
    constructor
    · rintro ⟨q1, q2⟩
      have d9 : d ≤ 9 := by omega
      refine ⟨d9, fun o ho hn => ⟨(l3 d).mp (by omega) o ho hn, (t3 d d9).mp (by omega) o ho hn⟩, fun j j1 => by omega⟩
    · rintro ⟨q1, q2, -⟩
      have a := (l3 d).mpr (fun o ho hn => (q2 o ho hn).1)
      have b := (t3 d q1).mpr (fun o ho hn => (q2 o ho hn).2)
      omega)
  obtain ⟨h', a1, a2⟩ := key
  refine ⟨h', ?_, a2⟩
  show F_Walk_narrow_0 N (L_Walk_narrow N N) (nI c) (nI op) h = _
  unfold F_Walk_narrow_0
  have ib : inB (nI c) 6 = true := by rw [inB_nI (by omega)]; exact c6
  rw [hsm, l1, bnd_some]
  dsimp only
  rw [if_pos ib, iN_nI (by omega)]
  have h42 : gI (sI h 44 c (nI l)) 42 0 = nI s := hsm
  rw [h42, t1, bnd_some]
  dsimp only
  rw [if_pos ib]
  exact a1
/-- where the numbers that begin so lie -/
def bs (n : Nat) (x : Nat → Nat) : Nat → Nat
  | 0 => 0
  | c + 1 => bs n x c + x c * 10 ^ (n - 1 - c)
theorem bs_dvd {n : Nat} {x : Nat → Nat} : ∀ c, c ≤ n → 10 ^ (n - c) ∣ bs n x c
  | 0, _ => ⟨0, rfl⟩
  | c + 1, hc => by
    obtain ⟨a, ha⟩ := bs_dvd (n := n) (x := x) c (by omega)
    refine ⟨10 * a + x c, ?_⟩
    show bs n x c + x c * 10 ^ (n - 1 - c) = _
    rw [ha, show n - c = (n - (c + 1)) + 1 by omega, Nat.pow_succ, show n - 1 - c = n - (c + 1) by omega, Nat.mul_add, Nat.mul_comm (x c), ← Nat.mul_assoc]
theorem bs_dg {n : Nat} {x : Nat → Nat} (x9 : ∀ i, x i < 10) : ∀ c r, c ≤ n → r < 10 ^ (n - c) → ∀ i, i < c → dg n (bs n x c + r) i = x i
  | 0, r, _, _ => fun i hi => by omega
  | c + 1, r, hc, hr => fun i hi => by
    have e : n - c = (n - (c + 1)) + 1 := by omega
    have xc := x9 c
    have hlt : x c * 10 ^ (n - 1 - c) + r < 10 ^ (n - c) := by
      rw [e, Nat.pow_succ, show n - 1 - c = n - (c + 1) by omega]
      have : x c * 10 ^ (n - (c + 1)) ≤ 9 * 10 ^ (n - (c + 1)) := Nat.mul_le_mul_right _ (by omega)
      omega
    show dg n (bs n x c + x c * 10 ^ (n - 1 - c) + r) i = x i
    rw [Nat.add_assoc]
    by_cases z : i = c
    · subst z
      unfold dg
      obtain ⟨a, ha⟩ := bs_dvd (n := n) (x := x) i (by omega)
      have hp : 0 < 10 ^ (n - 1 - i) := Nat.pow_pos (by omega)
      rw [show n - (i + 1) = n - 1 - i by omega] at hr
      have e2 : bs n x i + (x i * 10 ^ (n - 1 - i) + r) = r + (10 * a + x i) * 10 ^ (n - 1 - i) := by
        rw [ha, show n - i = (n - 1 - i) + 1 by omega, Nat.pow_succ, Nat.add_mul]
        have : 10 ^ (n - 1 - i) * 10 * a = 10 * a * 10 ^ (n - 1 - i) := by rw [Nat.mul_comm (10 ^ (n - 1 - i)) 10, Nat.mul_assoc, Nat.mul_comm (10 ^ (n - 1 - i)) a, Nat.mul_assoc]
        omega
      rw [e2, Nat.add_mul_div_right _ _ hp, Nat.div_eq_of_lt hr]
      omega
    · exact bs_dg x9 c _ (by omega) hlt i (by omega)
theorem bs_lt {n : Nat} {x : Nat → Nat} (x9 : ∀ i, x i < 10) : ∀ c, c ≤ n → bs n x c + 10 ^ (n - c) ≤ 10 ^ n
  | 0, _ => by simp [bs]
  | c + 1, hc => by
    have ih := bs_lt (n := n) x9 c (by omega)
    have xc := x9 c
    show bs n x c + x c * 10 ^ (n - 1 - c) + 10 ^ (n - (c + 1)) ≤ _
    rw [show n - c = (n - (c + 1)) + 1 by omega, Nat.pow_succ] at ih
    rw [show n - 1 - c = n - (c + 1) by omega]
    have : x c * 10 ^ (n - (c + 1)) ≤ 9 * 10 ^ (n - (c + 1)) := Nat.mul_le_mul_right _ (by omega)
    omega
theorem bs_congr {n : Nat} {x y : Nat → Nat} : ∀ c, (∀ i, i < c → x i = y i) → bs n x c = bs n y c
  | 0, _ => rfl
  | c + 1, h => by
    show bs n x c + _ = bs n y c + _
    rw [bs_congr c (fun i hi => h i (by omega)), h c (by omega)]
/-- what the walk has seen: all numbers below B -/
def FPw (P : PB) (s sm : Nat) (h : MH) (B : Nat) : Prop := (gI h 42 4 = 0 ∧ ∀ k, k < B → ¬ vld P s sm k) ∨ (0 < gI h 42 4 ∧ ∃ k0, fst1 (vld P s sm) k0 ∧ k0 < 10 ^ P.1 ∧ ∀ c, c < P.1 → gI h 43 c = nI (dg P.1 k0 c))
def ENw (P : PB) (s sm set : Nat) (l m : Nat) (B : Nat) : Prop := (∃ k, k < B ∧ vld P s sm k ∧ sm6 set (dg P.1 k) P.1 = l) ∧ (∀ k, k < B → vld P s sm k → l ≤ sm6 set (dg P.1 k) P.1) ∧ (∃ k, k < B ∧ vld P s sm k ∧ sm6 set (dg P.1 k) P.1 = m) ∧ ∀ k, k < B → vld P s sm k → sm6 set (dg P.1 k) P.1 ≤ m
def FUw (P : PB) (s sm set need : Nat) (h : MH) (B : Nat) : Prop := gI h 42 4 = nI (cn (vld P s sm) B) ∧ gI h 42 5 = nI (cn (fun k => vld P s sm k ∧ need ≤ sm6 set (dg P.1 k) P.1) B) ∧ (0 < cn (vld P s sm) B → ∃ l m, l ≤ 54 ∧ m ≤ 54 ∧ gI h 42 6 = nI l ∧ gI h 42 7 = nI m ∧ ENw P s sm set l m B)
def RW' (P : PB) (s sm set need : Nat) (once : Bool) (h : MH) (B : Nat) : Prop := FPw P s sm h B ∧ (once = false → FUw P s sm set need h B)
theorem cn_skip {f : Nat → Prop} {a b : Nat} (hab : a ≤ b) (h : ∀ k, a ≤ k → k < b → ¬ f k) : cn f b = cn f a := by
  obtain ⟨c, rfl⟩ : ∃ c, b = a + c := ⟨b - a, by omega⟩
  rw [cn_add, cn_zero.mpr (fun i hi => h (a + i) (by omega) (by omega))]; rfl
theorem RW_skip {P : PB} {s sm set need : Nat} {once : Bool} {h : MH} {B B' : Nat} (r : RW' P s sm set need once h B) (hB : B ≤ B') (hn : ∀ k, B ≤ k → k < B' → ¬ vld P s sm k) : RW' P s sm set need once h B' := by
  obtain ⟨fp, fu⟩ := r
  refine ⟨?_, fun o => ?_⟩
  · rcases fp with ⟨a, b⟩ | q
    · refine .inl ⟨a, fun k hk => ?_⟩
      rcases Nat.lt_or_ge k B with z | z
      · exact b k z
      · exact hn k z hk
    · exact .inr q
  · obtain ⟨a, b, c⟩ := fu o
    refine ⟨by rw [cn_skip hB hn]; exact a, by rw [cn_skip hB (fun k k1 k2 z => hn k k1 k2 z.1)]; exact b, fun z => ?_⟩
    rw [cn_skip hB hn] at z
    obtain ⟨l, m, c1, c2, c3, c4, ⟨k1, e1, e2, e3⟩, d1, ⟨k2, e4, e5, e6⟩, d2⟩ := c z
    refine ⟨l, m, c1, c2, c3, c4, ⟨k1, by omega, e2, e3⟩, fun k hk hv => ?_, ⟨k2, by omega, e5, e6⟩, fun k hk hv => ?_⟩
    · rcases Nat.lt_or_ge k B with z | z
      · exact d1 k z hv
      · exact absurd hv (hn k z hk)
    · rcases Nat.lt_or_ge k B with z | z
      · exact d2 k z hv
      · exact absurd hv (hn k z hk)
