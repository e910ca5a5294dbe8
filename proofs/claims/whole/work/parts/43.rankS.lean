/-! RANK on the class's side -/
def wT (c _k : Nat) : Bool := c == 49
def swN (r p a : Nat) : Nat := if a = r then p else if a = p then r else a
theorem ex64 {x y z w d : Int64} {Q : Int} (hx : x.toInt.natAbs ≤ 382637520) (hy : y.toInt.natAbs ≤ 382637520) (hz : z.toInt.natAbs ≤ 382637520) (hw : w.toInt.natAbs ≤ 382637520) (hd : d.toInt ≠ 0) (e : d.toInt * Q = x.toInt * y.toInt - z.toInt * w.toInt) : ((x * y - z * w) / d).toInt = Q := by
  obtain ⟨e1, b1⟩ := dif64 hx hy hz hw (by decide)
  have hne : x * y - z * w ≠ Int64.minValue := by
    intro q; rw [q] at b1; revert b1; decide
  rw [Int64.toInt_div_of_ne_left _ _ hne, e1, ← e, Int.mul_tdiv_cancel_left _ hd]
theorem eRow0 {N : Nat} {h : MH} {R c : Nat} (hR : R ≤ 8) (hc : c < 6) : ∀ (d m n : Nat), m + d = R → d < n → ∃ x, L_Ranks_rowWithout0 N n (nI c) (nI R) (nI m) h = some (x, h) ∧ ((x = -1 ∧ ∀ a, m ≤ a → a < R → gJ h 49 (6 * a + c) = 0) ∨ ∃ p, m ≤ p ∧ p < R ∧ x = nI p ∧ gJ h 49 (6 * p + c) ≠ 0) := by
  intro d
  induction d with
  | zero =>
    intro m n hd hn
    obtain ⟨n, rfl⟩ : ∃ q, n = q + 1 := ⟨n - 1, by omega⟩
    refine ⟨-1, ?_, .inl ⟨rfl, fun a h1 h2 => by omega⟩⟩
    show F_Ranks_rowWithout0_3 N (L_Ranks_rowWithout0 N n) (nI c) (nI R) (nI m) h = _
    unfold F_Ranks_rowWithout0_3
    rw [if_pos (by rw [nN_le (by omega) (by omega)]; omega)]
  | succ d ih =>
    intro m n hd hn
    obtain ⟨n, rfl⟩ : ∃ q, n = q + 1 := ⟨n - 1, by omega⟩
    show ∃ x, F_Ranks_rowWithout0_3 N (L_Ranks_rowWithout0 N n) (nI c) (nI R) (nI m) h = some (x, h) ∧ _
    unfold F_Ranks_rowWithout0_3
    simp (disch := omega) only [L6, L1, nN_le, nN_mul, nN_add, inB_nI, iN_nI, cmp0]
    rw [if_neg (by omega), if_pos (by omega), Nat.mul_comm m 6]
    by_cases g : gJ h 49 (6 * m + c) = 0
    · rw [if_pos g]
      obtain ⟨x, e1, e2⟩ := ih (m + 1) n (by omega) (by omega)
      refine ⟨x, e1, ?_⟩
      rcases e2 with ⟨q1, q2⟩ | ⟨p, q1, q2, q3, q4⟩
      · refine .inl ⟨q1, fun a h1 h2 => ?_⟩
        by_cases q : a = m
        · rw [q]; exact g
        · exact q2 a (by omega) h2
      · exact .inr ⟨p, by omega, q2, q3, q4⟩
    · rw [if_neg g]
      exact ⟨_, rfl, .inr ⟨m, Nat.le_refl _, by omega, rfl, g⟩⟩
theorem eSwap {N : Nat} {r p : Nat} (hr : r < 8) (hp : p < 8) : ∀ (d k n : Nat) (h : MH), k + d = 6 → d < n → ∃ h', L_Ranks_swapRows N n (nI r) (nI p) (nI k) h = some h' ∧ Fr wT h h' ∧ ∀ a j, j < 6 → gJ h' 49 (6 * a + j) = if k ≤ j then gJ h 49 (6 * swN r p a + j) else gJ h 49 (6 * a + j) := by
  intro d
  induction d with
  | zero =>
    intro k n h hd hn
    obtain ⟨n, rfl⟩ : ∃ q, n = q + 1 := ⟨n - 1, by omega⟩
    refine ⟨h, ?_, Fr.rfl, fun a j hj => by rw [if_neg (by omega)]⟩
    show F_Ranks_swapRows_2 N (L_Ranks_swapRows N n) (nI r) (nI p) (nI k) h = _
    unfold F_Ranks_swapRows_2
    rw [if_pos (by rw [L6, nN_le (by omega) (by omega)]; omega)]
  | succ d ih =>
    intro k n h hd hn
    obtain ⟨n, rfl⟩ : ∃ q, n = q + 1 := ⟨n - 1, by omega⟩
    show ∃ h', F_Ranks_swapRows_2 N (L_Ranks_swapRows N n) (nI r) (nI p) (nI k) h = some h' ∧ _
    unfold F_Ranks_swapRows_2
    simp (disch := omega) only [L6, L1, nN_le, nN_mul, nN_add, inB_nI, iN_nI]
    have i1 : r * 6 + k < 48 := by omega
    have i2 : p * 6 + k < 48 := by omega
    rw [if_neg (by omega)]
    simp only [i1, i2, if_true]
    obtain ⟨h', e1, e2, e3⟩ := ih (k + 1) n (sJ (sJ h 49 (r * 6 + k) (gJ h 49 (p * 6 + k))) 49 (p * 6 + k) (gJ h 49 (r * 6 + k))) (by omega) (by omega)
    refine ⟨h', e1, ((Fr.rfl.sJ 49 _ _ rfl).sJ 49 _ _ rfl).trans e2, fun a j hj => ?_⟩
    rw [e3 a j hj]
    have rd : ∀ x, gJ (sJ (sJ h 49 (r * 6 + k) (gJ h 49 (p * 6 + k))) 49 (p * 6 + k) (gJ h 49 (r * 6 + k))) 49 (6 * x + j) = if j = k then gJ h 49 (6 * swN r p x + j) else gJ h 49 (6 * x + j) := by
      intro x
      rw [gJ_sJ, gJ_sJ]
      unfold swN
      by_cases c1 : j = k
      · rw [if_pos c1]
        by_cases c2 : x = p
        · rw [if_pos (by omega)]
          by_cases c3 : x = r
          · rw [if_pos c3]; congr 1; omega
          · rw [if_neg c3, if_pos c2]; congr 1; omega
        · rw [if_neg (by omega)]
          by_cases c3 : x = r
          · rw [if_pos (by omega), if_pos c3]; congr 1; omega
          · rw [if_neg (by omega), if_neg c3, if_neg c2]
      · rw [if_neg (by omega), if_neg (by omega), if_neg c1]
    by_cases c : k + 1 ≤ j
    · rw [if_pos c, if_pos (by omega), rd, if_neg (by omega)]
    · rw [if_neg c, rd]
      by_cases c2 : j = k
      · rw [if_pos c2, if_pos (by omega)]
      · rw [if_neg c2, if_neg (by omega)]
theorem eElim {N : Nat} {r m : Nat} (hr : r < 8) (hm : m < 8) (hrm : r ≠ m) (bf pv hd : Int64) (hb : ¬ bf = 0) : ∀ (d k n : Nat) (h : MH), k + d = 6 → d < n → ∃ h', L_Ranks_eliminate N n (nI r) (nI m) bf pv hd (nI k) h = some h' ∧ Fr wT h h' ∧ ∀ a j, j < 6 → gJ h' 49 (6 * a + j) = if a = m ∧ k ≤ j then (gJ h 49 (6 * m + j) * pv - gJ h 49 (6 * r + j) * hd) / bf else gJ h 49 (6 * a + j) := by
  intro d
  induction d with
  | zero =>
    intro k n h hd hn
    obtain ⟨n, rfl⟩ : ∃ q, n = q + 1 := ⟨n - 1, by omega⟩
    refine ⟨h, ?_, Fr.rfl, fun a j hj => by rw [if_neg (by omega)]⟩
    show F_Ranks_eliminate_29 N (L_Ranks_eliminate N n) _ _ _ _ _ _ h = _
    unfold F_Ranks_eliminate_29
    rw [if_pos (by rw [L6, nN_le (by omega) (by omega)]; omega)]
  | succ d ih =>
    intro k n h hd' hn
    obtain ⟨n, rfl⟩ : ∃ q, n = q + 1 := ⟨n - 1, by omega⟩
    show ∃ h', F_Ranks_eliminate_29 N (L_Ranks_eliminate N n) (nI r) (nI m) bf pv hd (nI k) h = some h' ∧ _
    unfold F_Ranks_eliminate_29
    have i1 : m * 6 + k < 48 := by omega
    have i2 : r * 6 + k < 48 := by omega
    simp (disch := omega) only [L6, L1, nN_le, nN_mul, nN_add, inB_nI, iN_nI, cmp0, hb, if_false, i1, i2, if_true]
    rw [if_neg (by omega)]
    obtain ⟨h', e1, e2, e3⟩ := ih (k + 1) n (sJ h 49 (m * 6 + k) ((gJ h 49 (m * 6 + k) * pv - gJ h 49 (r * 6 + k) * hd) / bf)) (by omega) (by omega)
    refine ⟨h', e1, (Fr.rfl.sJ 49 _ _ rfl).trans e2, fun a j hj => ?_⟩
    rw [e3 a j hj]
    have rd : ∀ x, gJ (sJ h 49 (m * 6 + k) ((gJ h 49 (m * 6 + k) * pv - gJ h 49 (r * 6 + k) * hd) / bf)) 49 (6 * x + j) = if x = m ∧ j = k then (gJ h 49 (6 * m + j) * pv - gJ h 49 (6 * r + j) * hd) / bf else gJ h 49 (6 * x + j) := by
      intro x
      rw [gJ_sJ]
      by_cases c : x = m ∧ j = k
      · rw [if_pos c, if_pos (by omega), c.2, Nat.mul_comm m 6, Nat.mul_comm r 6]
      · rw [if_neg c, if_neg (by omega)]
    rw [rd m, rd r, rd a]
    by_cases c1 : a = m ∧ k + 1 ≤ j
    · have nk : ¬ j = k := by omega
      have c1' : a = m ∧ k ≤ j := by omega
      simp only [c1, c1', nk, and_false, if_false, and_self, if_true]
    · rw [if_neg c1]
      by_cases c2 : a = m ∧ j = k
      · have c2' : a = m ∧ k ≤ j := by omega
        rw [if_pos c2, if_pos c2']
      · have c2' : ¬ (a = m ∧ k ≤ j) := by omega
        rw [if_neg c2, if_neg c2']
def TI (cell : Nat) (h : MH) (R r lo : Nat) (C : List Nat) (b : List RV) (sg : Nat → RV) : Prop := ∀ m j, r ≤ m → m < R → lo ≤ j → j < 6 → (gJ h cell (6 * m + j)).toInt = TT C b (sg m) j
theorem swp_eq (sg : Nat → RV) (r p m : Nat) : swp sg r p m = sg (swN r p m) := by
  unfold swp swN
  split
  · rfl
  · split <;> rfl
theorem J0i : (0 : Int64).toInt = 0 := rfl
theorem j_ne {x : Int64} (h : x.toInt ≠ 0) : ¬ x = 0 := fun q => h (by rw [q]; rfl)
theorem j_eq {x : Int64} (h : x.toInt = 0) : x = 0 := by rw [← Int64.toInt_inj, h]; rfl
/-- the rows behind the pivot, one by one -/
theorem lOf66 {N : Nat} (hN : 100 < N) {A : List RV} (h9 : ∀ w ∈ A, ∀ j, j < 6 → (w j).natAbs ≤ 9) {R r c : Nat} (hR : R ≤ 8) (hc : c < 6) {C : List Nat} {b : List RV} {sg : Nat → RV} {bf : Int64} (hbf : bf.toInt = det C b) (hBI : BI A R sg r c C b) (hr : r < R) {p : Nat} (p1 : r ≤ p) (p2 : p < R) (hp : TT C b (sg p) c ≠ 0) (res : MH → Int32 → Prop) (h0 : MH) (K : Nat)
    (cont : ∀ h n, Fr wT h0 h → K ≤ n → (gJ h 49 (6 * r + c)).toInt = TT C b (sg p) c → TI 49 h R (r + 1) (c + 1) (c :: C) (sg p :: b) (swp sg r p) → ∃ v h', (L_Ranks_of N n).1 (nI R) (gJ h 49 (6 * r + c)) (nI (r + 1)) (nI (c + 1)) h = some (v, h') ∧ Fr wT h0 h' ∧ res h' v) :
    ∀ (d m n : Nat) (h : MH), m + d = R → r < m → K + d < n → Fr wT h0 h → (∀ j, c ≤ j → j < 6 → (gJ h 49 (6 * r + j)).toInt = TT C b (sg p) j) → (∀ a j, m ≤ a → a < R → c ≤ j → j < 6 → (gJ h 49 (6 * a + j)).toInt = TT C b (swp sg r p a) j) → (∀ a j, r < a → a < m → c + 1 ≤ j → j < 6 → (gJ h 49 (6 * a + j)).toInt = TT (c :: C) (sg p :: b) (swp sg r p a) j) →
    ∃ v h', (L_Ranks_of N n).2 (nI R) bf (nI r) (nI c) (nI m) h = some (v, h') ∧ Fr wT h0 h' ∧ res h' v := by
  have bd0 : bf.toInt ≠ 0 := by rw [hbf]; exact hBI.2.2.1
  have hY := BI_yes hBI p1 p2 hp
  have memA : ∀ a, r < a → a < R → swp sg r p a ∈ A := fun a h1 h2 => hY.2.2.2.2.2.2.1 a (by omega) h2
  have memP : sg p ∈ A := hBI.2.2.2.2.2.2.1 p p1 p2
  intro d
  induction d with
  | zero =>
    intro m n h hd hm hn fr t1 t2 t3
    obtain ⟨n, rfl⟩ : ∃ q, n = q + 1 := ⟨n - 1, by omega⟩
    show ∃ v h', F_Ranks_of_66 N (L_Ranks_of N n) (nI R) bf (nI r) (nI c) (nI m) h = some (v, h') ∧ _
    unfold F_Ranks_of_66
    simp (disch := omega) only [L6, L1, nN_le, nN_mul, nN_add, inB_nI, iN_nI]
    rw [if_pos (by omega), if_pos (by omega), Nat.mul_comm r 6]
    exact cont h n fr (by omega) (t1 c (Nat.le_refl _) hc) (fun a j q1 q2 q3 q4 => t3 a j (by omega) (by omega) q3 q4)
  | succ d ih =>
    intro m n h hd hm hn fr t1 t2 t3
    obtain ⟨n, rfl⟩ : ∃ q, n = q + 1 := ⟨n - 1, by omega⟩
    show ∃ v h', F_Ranks_of_66 N (L_Ranks_of N n) (nI R) bf (nI r) (nI c) (nI m) h = some (v, h') ∧ _
    unfold F_Ranks_of_66
    rw [if_neg (by rw [nN_le (by omega) (by omega)]; omega)]
    obtain ⟨h', e1, e2, e3⟩ := eElim (N := N) (r := r) (m := m) (by omega) (by omega) (by omega) bf (gJ h 49 (6 * r + c)) (gJ h 49 (6 * m + c)) (j_ne bd0) (6 - c) c (N + 1) h (by omega) (by omega)
    have e1' : f_Ranks_eliminate N (nI r) (nI m) (nI c) bf h = some h' := by
      show F_Ranks_eliminate_0 N (L_Ranks_eliminate N N) (nI r) (nI m) (nI c) bf h = _
      unfold F_Ranks_eliminate_0
      simp (disch := omega) only [L6, nN_mul, nN_add, inB_nI, iN_nI]
      rw [if_pos (by omega), if_pos (by omega), Nat.mul_comm r 6, Nat.mul_comm m 6]
      exact e1
    rw [e1', bnd_some, show nI m + 1 = nI (m + 1) from nN_add m 1]
    refine ih (m + 1) n h' (by omega) (by omega) (by omega) (fr.trans e2) (fun j q1 q2 => ?_) (fun a j q1 q2 q3 q4 => ?_) (fun a j q1 q2 q3 q4 => ?_)
    · rw [e3 r j q2, if_neg (by omega)]; exact t1 j q1 q2
    · rw [e3 a j q4, if_neg (by omega)]; exact t2 a j (by omega) q2 q3 q4
    · rw [e3 a j q4]
      by_cases q : a = m
      · subst q
        rw [if_pos ⟨rfl, by omega⟩]
        have u1 := t2 a j (by omega) (by omega) (by omega) q4
        have u2 := t1 c (by omega) hc
        have u3 := t1 j (by omega) q4
        have u4 := t2 a c (by omega) (by omega) (by omega) hc
        refine ex64 ?_ ?_ ?_ ?_ bd0 ?_
        · rw [u1]; exact BI_bd hBI h9 hc (memA a q1 (by omega)) q4
        · rw [u2]; exact BI_bd hBI h9 hc memP hc
        · rw [u3]; exact BI_bd hBI h9 hc memP q4
        · rw [u4]; exact BI_bd hBI h9 hc (memA a q1 (by omega)) hc
        · rw [u1, u2, u3, u4, hbf, TT_step C b (sg p) (swp sg r p a) c j hBI.1 hBI.2.2.1 hBI.2.2.2.1]
          rw [Int.mul_comm (TT C b (sg p) c), Int.mul_comm (TT C b (swp sg r p a) c)]
      · rw [if_neg (by omega)]
        exact t3 a j q1 (by omega) q3 q4
theorem BI_rest {A : List RV} {R : Nat} {sg : Nat → RV} {r : Nat} {C : List Nat} {b : List RV} (hRr : R ≤ r) : ∀ (d c : Nat), c + d = 6 → BI A R sg r c C b → r = pcn A 6
  | 0, c, hd, h => by
    have := h.2.2.2.2.2.2.2.2.2
    rw [show c = 6 by omega] at this; exact this
  | d + 1, c, hd, h => BI_rest hRr d (c + 1) (by omega) (BI_no h (fun m h1 h2 => by omega))
theorem lOf {N : Nat} (hN : 100 < N) {A : List RV} (h9 : ∀ w ∈ A, ∀ j, j < 6 → (w j).natAbs ≤ 9) {R : Nat} (hR : R ≤ 8) (h0 : MH) : ∀ (d c n r : Nat) (sg : Nat → RV) (C : List Nat) (b : List RV) (bf : Int64) (h : MH), c + d = 6 → 12 * d < n → r ≤ R → BI A R sg r c C b → bf.toInt = det C b → TI 49 h R r c C b sg → Fr wT h0 h →
    ∃ v h', (L_Ranks_of N n).1 (nI R) bf (nI r) (nI c) h = some (v, h') ∧ Fr wT h0 h' ∧ v = nI (pcn A 6) := by
  intro d
  induction d with
  | zero =>
    intro c n r sg C b bf h hd hn hr hB hbf ti fr
    obtain ⟨n, rfl⟩ : ∃ q, n = q + 1 := ⟨n - 1, by omega⟩
    refine ⟨nI r, h, ?_, fr, ?_⟩
    · show F_Ranks_of_18 N (L_Ranks_of N n) (nI R) bf (nI r) (nI c) h = _
      unfold F_Ranks_of_18
      rw [if_pos (by rw [L6, nN_le (by omega) (by omega)]; omega)]
    · have := hB.2.2.2.2.2.2.2.2.2
      rw [show c = 6 by omega] at this
      rw [this]
  | succ d ih =>
    intro c n r sg C b bf h hd hn hr hB hbf ti fr
    obtain ⟨n, rfl⟩ : ∃ q, n = q + 1 := ⟨n - 1, by omega⟩
    show ∃ v h', F_Ranks_of_18 N (L_Ranks_of N n) (nI R) bf (nI r) (nI c) h = some (v, h') ∧ _
    unfold F_Ranks_of_18
    rw [if_neg (by rw [L6, nN_le (by omega) (by omega)]; omega)]
    by_cases g : R ≤ r
    · rw [if_pos (by rw [nN_le (by omega) (by omega)]; exact g)]
      exact ⟨nI r, h, rfl, fr, by rw [← BI_rest g (d + 1) c hd hB]⟩
    · rw [if_neg (by rw [nN_le (by omega) (by omega)]; exact g)]
      have hc : c < 6 := by omega
      obtain ⟨x, x1, x2⟩ := eRow0 (N := N) (h := h) hR hc (R - r) r (N + 1) (by omega) (by omega)
      have x1' : f_Ranks_rowWithout0 N (nI c) (nI r) (nI R) h = some (x, h) := x1
      rw [x1', bnd_some]
      rcases x2 with ⟨q1, q2⟩ | ⟨p, q1, q2, q3, q4⟩
      · rw [if_neg (by show ¬ (0 ≤ x); rw [q1]; decide)]
        dsimp only
        rw [show nI c + 1 = nI (c + 1) from nN_add c 1]
        refine ih (c + 1) n r sg C b bf h (by omega) (by omega) hr (BI_no hB (fun m m1 m2 => ?_)) hbf (fun m j m1 m2 m3 m4 => ti m j m1 m2 (by omega) m4) fr
        rw [← ti m c m1 m2 (Nat.le_refl _) hc, q2 m m1 m2]; rfl
      · have hp : TT C b (sg p) c ≠ 0 := by
          rw [← ti p c q1 q2 (Nat.le_refl _) hc]
          intro z; exact q4 (j_eq z)
        rw [if_pos (by show 0 ≤ x; rw [q3, L0, nN_le (by omega) (by omega)]; omega)]
        dsimp only
        obtain ⟨h1, s1, s2, s3⟩ := eSwap (N := N) (r := r) (p := p) (by omega) (by omega) 6 0 (N + 1) h (by omega) (by omega)
        have s1' : f_Ranks_swapRows N (nI r) x h = some h1 := by rw [q3]; exact s1
        rw [s1', bnd_some, show nI r + 1 = nI (r + 1) from nN_add r 1]
        have t1 : ∀ j, c ≤ j → j < 6 → (gJ h1 49 (6 * r + j)).toInt = TT C b (sg p) j := by
          intro j j1 j2
          rw [s3 r j j2, if_pos (by omega), show swN r p r = p by simp [swN]]
          exact ti p j q1 q2 j1 j2
        have t2 : ∀ a j, r + 1 ≤ a → a < R → c ≤ j → j < 6 → (gJ h1 49 (6 * a + j)).toInt = TT C b (swp sg r p a) j := by
          intro a j a1 a2 j1 j2
          rw [s3 a j j2, if_pos (by omega), swp_eq]
          refine ti (swN r p a) j ?_ ?_ j1 j2
          · unfold swN; split <;> (try split) <;> omega
          · unfold swN; split <;> (try split) <;> omega
        have := lOf66 (N := N) hN h9 hR hc hbf hB (by omega) q1 q2 hp (fun _ v => v = nI (pcn A 6)) h0 (12 * d + 1) (fun h' n' f' hn' hb' ti' => ih (c + 1) n' (r + 1) (swp sg r p) (c :: C) (sg p :: b) _ h' (by omega) (by omega) (by omega) (BI_yes hB q1 q2 hp) hb' ti' f') (R - (r + 1)) (r + 1) (n + 1) h1 (by omega) (by omega) (by omega) (fr.trans s2) t1 t2 (fun a j a1 a2 => by omega)
        exact this
/-- the rows that a set of marks gives; lo is the cell left out -/
def rowV (h : MH) (lo mk : Nat) : RV := fun j => if j = lo ∨ 6 ≤ j then 0 else (gI h 88 (8 * j + mk)).toInt
def bits8 (s : Nat) : Nat → List Nat
  | 0 => []
  | m + 1 => if s.testBit m = true then bits8 s m ++ [m] else bits8 s m
theorem bits8_lt {s : Nat} : ∀ {m k : Nat}, k ∈ bits8 s m → k < m ∧ s.testBit k = true
  | 0, k, h => by cases h
  | m + 1, k, h => by
    unfold bits8 at h
    split at h
    · next q =>
      rcases List.mem_append.mp h with z | z
      · have := bits8_lt z; exact ⟨by omega, this.2⟩
      · rw [List.mem_singleton.mp z]; exact ⟨by omega, q⟩
    · have := bits8_lt h; exact ⟨by omega, this.2⟩
theorem bits8_mem {s : Nat} : ∀ {m k : Nat}, k < m → s.testBit k = true → k ∈ bits8 s m
  | 0, k, h, _ => by omega
  | m + 1, k, h, q => by
    unfold bits8
    by_cases z : k = m
    · rw [if_pos (by rw [← z]; exact q), z]; exact List.mem_append_right _ (List.mem_singleton.mpr rfl)
    · have := bits8_mem (m := m) (by omega) q
      split
      · exact List.mem_append_left _ this
      · exact this
theorem bits8_len {s : Nat} : ∀ m, (bits8 s m).length ≤ m
  | 0 => Nat.le_refl _
  | m + 1 => by
    have := bits8_len (s := s) m
    unfold bits8
    split
    · simp; omega
    · omega
theorem bit_d : ∀ s : Fin 256, ∀ m : Fin 8, (((nI s >>> (nI m &&& 31)) &&& 1 = 0) ↔ s.val.testBit m.val = false) ∧ (((nI s >>> (nI m &&& 31)) &&& 1 = 1) ↔ s.val.testBit m.val = true) := by decide +kernel
theorem bit0 {s m : Nat} (hs : s < 256) (hm : m < 8) : ((nI s >>> (nI m &&& 31)) &&& 1 = 0) = (s.testBit m = false) := propext ((bit_d ⟨s, hs⟩ ⟨m, hm⟩).1)
theorem bit1 {s m : Nat} (hs : s < 256) (hm : m < 8) : ((nI s >>> (nI m &&& 31)) &&& 1 = 1) = (s.testBit m = true) := propext ((bit_d ⟨s, hs⟩ ⟨m, hm⟩).2)
/-- the table as it is filled: rows of the marks so far -/
def FI (hM : MH) (h : MH) (lo : Nat) (L : List Nat) : Prop := ∀ i k, L[i]? = some k → ∀ j, j < 6 → (gJ h 49 (6 * i + j)).toInt = rowV hM lo k j
theorem lFillIn {N : Nat} {hS hM : MH} {G n0 m0 : Nat} (hL : IvL hS hM G n0 m0) (hG : G = 5 ∨ G = 54) {s lo mk r : Nat} {loI : Int32} (hlo : ∀ j, j < 6 → (nI j = loI ↔ j = lo)) (hmk : mk < 8) (hr : r < 8) (res : Int32 → MH → Prop) (K : Nat) (L : List Nat) (hl : L.length = r) (sI' : Int32)
    (cont : ∀ h n, Fr wT hS h → K ≤ n → FI hM h lo (L ++ [mk]) → ∃ v h', (L_Ranks_fill N n).1 G sI' loI (nI (r + 1)) (nI (mk + 1)) h = some (v, h') ∧ Fr wT hS h' ∧ res v h') :
    ∀ (d j n : Nat) (h : MH), j + d = 6 → K + d < n → Fr wT hS h → FI hM h lo L → (∀ i, i < j → (gJ h 49 (6 * r + i)).toInt = rowV hM lo mk i) → ∃ v h', (L_Ranks_fill N n).2 G sI' loI (nI r) (nI mk) (nI j) h = some (v, h') ∧ Fr wT hS h' ∧ res v h' := by
  intro d
  induction d with
  | zero =>
    intro j n h hd hn fr fi t
    obtain ⟨n, rfl⟩ : ∃ q, n = q + 1 := ⟨n - 1, by omega⟩
    show ∃ v h', F_Ranks_fill_28 N (L_Ranks_fill N n) G sI' loI (nI r) (nI mk) (nI j) h = some (v, h') ∧ _
    unfold F_Ranks_fill_28
    rw [if_pos (by rw [L6, nN_le (by omega) (by omega)]; omega), show nI r + 1 = nI (r + 1) from nN_add r 1, show nI mk + 1 = nI (mk + 1) from nN_add mk 1]
    refine cont h n fr (by omega) (fun i k hk j hj => ?_)
    rw [List.getElem?_append] at hk
    split at hk
    · exact fi i k hk j hj
    · next q =>
      have : i = r := by
        rcases Nat.lt_or_ge (i - L.length) 1 with z | z
        · omega
        · rw [List.getElem?_eq_none (by simpa using z)] at hk; cases hk
      subst this
      rw [hl] at hk
      simp at hk
      rw [← hk]
      exact t j (by omega)
  | succ d ih =>
    intro j n h hd hn fr fi t
    obtain ⟨n, rfl⟩ : ∃ q, n = q + 1 := ⟨n - 1, by omega⟩
    show ∃ v h', F_Ranks_fill_28 N (L_Ranks_fill N n) G sI' loI (nI r) (nI mk) (nI j) h = some (v, h') ∧ _
    unfold F_Ranks_fill_28
    have j6 : j < 6 := by omega
    have ib : r * 6 + j < 48 := by omega
    have step : ∀ v : Int64, v.toInt = rowV hM lo mk j → ∃ v' h', (L_Ranks_fill N n).2 G sI' loI (nI r) (nI mk) (nI (j + 1)) (sJ h 49 (r * 6 + j) v) = some (v', h') ∧ Fr wT hS h' ∧ res v' h' := by
      intro v hv
      refine ih (j + 1) n _ (by omega) (by omega) (fr.sJ 49 _ _ rfl) (fun i k hk q hq => ?_) (fun i hi => ?_)
      · rw [gJ_sJ, if_neg]
        · exact fi i k hk q hq
        · have : i < L.length := by
            rcases Nat.lt_or_ge i L.length with z | z
            · exact z
            · rw [List.getElem?_eq_none z] at hk; cases hk
          omega
      · rw [gJ_sJ]
        by_cases c : i = j
        · rw [if_pos (by omega), c]; exact hv
        · rw [if_neg (by omega)]; exact t i (by omega)
    simp (disch := omega) only [L6, nN_le, nN_mul, nN_add, inB_nI, iN_nI, ib, if_true, show nI j + 1 = nI (j + 1) from nN_add j 1]
    rw [if_neg (by omega)]
    by_cases c : nI j = loI
    · rw [if_pos c]
      exact step 0 (by rw [J0i]; unfold rowV; rw [if_pos (.inl ((hlo j j6).mp c))])
    · rw [if_neg c, eLand_unit j6 hmk, bnd_some]
      dsimp only
      refine step _ ?_
      have u := (hL.2.2.2.1 (8 * j + mk) (by omega)).1
      have fu : gI h (G + 1) (8 * j + mk) = gI hS (G + 1) (8 * j + mk) := fr.i _ _ (by unfold wT; rcases hG with rfl | rfl <;> rfl)
      rw [Int32.toInt_toInt64, fu, u]
      unfold rowV
      rw [if_neg (by rintro (z | z); exact c ((hlo j j6).mpr z); omega)]
theorem lFill {N : Nat} {hS hM : MH} {G n0 m0 : Nat} (hL : IvL hS hM G n0 m0) (hG : G = 5 ∨ G = 54) {s lo : Nat} (hs : s < 256) {loI : Int32} (hlo : ∀ j, j < 6 → (nI j = loI ↔ j = lo)) : ∀ (d m n : Nat) (h : MH), m + d = 8 → 8 * d < n → Fr wT hS h → FI hM h lo (bits8 s m) → ∃ v h', (L_Ranks_fill N n).1 G (nI s) loI (nI (bits8 s m).length) (nI m) h = some (v, h') ∧ Fr wT hS h' ∧ (v = nI (bits8 s 8).length ∧ FI hM h' lo (bits8 s 8)) := by
  intro d
  induction d with
  | zero =>
    intro m n h hd hn fr fi
    obtain ⟨n, rfl⟩ : ∃ q, n = q + 1 := ⟨n - 1, by omega⟩
    have : m = 8 := by omega
    subst this
    refine ⟨nI (bits8 s 8).length, h, ?_, fr, rfl, fi⟩
    show F_Ranks_fill_6 N (L_Ranks_fill N n) G (nI s) loI _ (nI 8) h = _
    unfold F_Ranks_fill_6
    rw [if_pos (by decide)]
  | succ d ih =>
    intro m n h hd hn fr fi
    obtain ⟨n, rfl⟩ : ∃ q, n = q + 1 := ⟨n - 1, by omega⟩
    show ∃ v h', F_Ranks_fill_6 N (L_Ranks_fill N n) G (nI s) loI (nI (bits8 s m).length) (nI m) h = some (v, h') ∧ _
    unfold F_Ranks_fill_6
    have e8 : (8 ≤ nI m) = (8 ≤ m) := nN_le (a := 8) (by omega) (by omega)
    simp only [e8, bit0 hs (show m < 8 by omega)]
    rw [if_neg (by omega)]
    by_cases c : s.testBit m = false
    · rw [if_pos c, show nI m + 1 = nI (m + 1) from nN_add m 1]
      have eb : bits8 s (m + 1) = bits8 s m := by show (if s.testBit m = true then _ else _) = _; rw [if_neg (by rw [c]; decide)]
      have := ih (m + 1) n h (by omega) (by omega) fr (by rw [eb]; exact fi)
      rw [eb] at this
      exact this
    · rw [if_neg c]
      have ct : s.testBit m = true := by cases z : s.testBit m; exact absurd z c; rfl
      have eb : bits8 s (m + 1) = bits8 s m ++ [m] := by show (if s.testBit m = true then _ else _) = _; rw [if_pos ct]
      have hlen := bits8_len (s := s) m
      have := lFillIn (N := N) hL hG (s := s) (mk := m) (r := (bits8 s m).length) hlo (by omega) (by omega) (fun v h' => v = nI (bits8 s 8).length ∧ FI hM h' lo (bits8 s 8)) (8 * d + 1) (bits8 s m) rfl (nI s) (fun h' n' f' hn' fi' => by
        have := ih (m + 1) n' h' (by omega) (by omega) f' (by rw [eb]; exact fi')
        rw [eb] at this
        simpa using this) 6 0 (n + 1) h (by omega) (by omega) fr fi (fun i hi => by omega)
      exact this
/-- RANK of a set of marks, a cell left out or none (lo = 99) -/
noncomputable def RK (hM : MH) (lo s : Nat) : Nat := pcn ((bits8 s 8).map (rowV hM lo)) 6
theorem rowV_9 {hS hM : MH} {G n0 m0 : Nat} (hL : IvL hS hM G n0 m0) {lo mk : Nat} (hm : mk < 8) (j : Nat) (hj : j < 6) : (rowV hM lo mk j).natAbs ≤ 9 := by
  unfold rowV
  split
  · decide
  · have := (hL.2.2.2.1 (8 * j + mk) (by omega)).2
    omega
theorem eS_ranks {N : Nat} (hN : 200 < N) {hS hM : MH} {G n0 m0 : Nat} (hL : IvL hS hM G n0 m0) (hG : G = 5 ∨ G = 54) {s lo : Nat} (hs : s < 256) {loI : Int32} (hlo : ∀ j, j < 6 → (nI j = loI ↔ j = lo)) : ∃ h', f_Ranks_of N G (nI s) loI hS = some (nI (RK hM lo s), h') ∧ Fr wT hS h' := by
  obtain ⟨v, x1, a1, a2, a3, a4⟩ := lFill (N := N) hL hG hs hlo 8 0 (N + 1) hS (by omega) (by omega) Fr.rfl (fun i k hk => by simp [bits8] at hk)
  have a1' : f_Ranks_fill N G (nI s) loI hS = some (v, x1) := a1
  have hlen := bits8_len (s := s) 8
  have key := lOf (N := N) (by omega) (A := (bits8 s 8).map (rowV hM lo)) (fun w hw j hj => by
      obtain ⟨k, k1, rfl⟩ := List.mem_map.mp hw
      exact rowV_9 hL (bits8_lt k1).1 j hj) (R := (bits8 s 8).length) hlen hS 6 0 (N + 1) 0 (fun i => (((bits8 s 8)[i]?).map (rowV hM lo)).getD (fun _ => 0)) [] [] 1 x1 (by omega) (by omega) (by omega)
      (BI_start (fun m hm => by
        simp only [List.getElem?_eq_getElem hm, Option.map_some, Option.getD_some]
        exact List.mem_map.mpr ⟨_, List.getElem_mem hm, rfl⟩) (fun w hw => by
        obtain ⟨k, k1, rfl⟩ := List.mem_map.mp hw
        obtain ⟨i, hi, e⟩ := List.getElem_of_mem k1
        exact ⟨i, hi, by simp only [List.getElem?_eq_getElem hi, Option.map_some, Option.getD_some, e]⟩)) rfl (fun m j m1 m2 m3 m4 => by
        have := a4 m _ (List.getElem?_eq_getElem m2) j m4
        rw [this]
        show _ = det [j] [_]
        simp only [List.getElem?_eq_getElem m2, Option.map_some, Option.getD_some]
        simp [det, lapl]) a2
  obtain ⟨v', h', b1, b2, b3⟩ := key
  refine ⟨h', ?_, b2⟩
  show F_Ranks_of_0 N (L_Ranks_of N N) G (nI s) loI hS = _
  unfold F_Ranks_of_0
  rw [a1', bnd_some, a3]
  have b1' : F_Ranks_of_18 N (L_Ranks_of N N) (nI (bits8 s 8).length) 1 0 0 x1 = some (v', h') := b1
  dsimp only
  rw [b1', b3]
  rfl
