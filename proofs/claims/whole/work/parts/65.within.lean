/-! SLIPS: quarrel, the marks still within reach, and noting -/
def rea (P : PB) (c : Nat) (x : Nat → Nat) (k : Nat) : Prop := pl P k ≤ ps (pU P) k x c + (mx (pU P) k P.1 - mx (pU P) k c) ∧ ps (pU P) k x c + (mn (pU P) k P.1 - mn (pU P) k c) ≤ pH P k
def WI (P : PB) (c : Nat) (x : Nat → Nat) (marks m v : Nat) : Prop := v < 256 ∧ ∀ k, k < 8 → (v.testBit k = true ↔ k < m ∧ marks.testBit k = true ∧ rea P c x k)
theorem eWithin {N : Nat} (hN : 100 < N) {P : PB} {mv : Nat} {c : Nat} (hc : c ≤ P.1) {h : MH} {x : Nat → Nat} (as : AS P mv h) (px : PX P h c x) (x9 : ∀ i, x i < 10) {marks : Nat} (hm : marks < 256) (hsub : ∀ k, marks.testBit k = true → mv.testBit k = true) : ∃ v, f_Asked_stillWithin N (nI c) (nI marks) h = some (nI v, h) ∧ WI P c x marks P.2.1 v := by
  obtain ⟨p1, p2, p3, p4, p5, p6, p7, p8⟩ := id as
  have main : ∀ (e k f v : Nat), k + e = P.2.1 → e < f → WI P c x marks k v → ∃ w, L_Asked_stillWithin N f (nI c) (nI marks) (nI v) (nI k) h = some (nI w, h) ∧ WI P c x marks P.2.1 w := by
    intro e
    induction e with
    | zero =>
      intro k f v he hf ho
      obtain ⟨f, rfl⟩ : ∃ z, f = z + 1 := ⟨f - 1, by omega⟩
      refine ⟨v, ?_, by rw [show P.2.1 = k by omega]; exact ho⟩
      show F_Asked_stillWithin_5 N (L_Asked_stillWithin N f) _ _ _ (nI k) h = _
      unfold F_Asked_stillWithin_5
      rw [p4, if_pos (by rw [nN_le (by omega) (by omega)]; omega)]
    | succ e ih =>
      intro k f v he hf ho
      obtain ⟨f, rfl⟩ : ∃ z, f = z + 1 := ⟨f - 1, by omega⟩
      show ∃ w, F_Asked_stillWithin_5 N (L_Asked_stillWithin N f) (nI c) (nI marks) (nI v) (nI k) h = _ ∧ _
      unfold F_Asked_stillWithin_5
      have k8 : k < 8 := by omega
      have stay : ¬ (marks.testBit k = true ∧ rea P c x k) → WI P c x marks (k + 1) v := fun q => ⟨ho.1, fun j hj => by
        rw [ho.2 j hj]
        constructor
        · rintro ⟨a, b⟩; exact ⟨by omega, b⟩
        · rintro ⟨a, b⟩
          refine ⟨?_, b⟩
          by_cases z : j = k
          · subst z; exact absurd b q
          · omega⟩
      have take : marks.testBit k = true → rea P c x k → WI P c x marks (k + 1) (v ||| 2 ^ k) := fun q1 q2 => ⟨or_lt ho.1 (Nat.lt_of_lt_of_le (Nat.pow_lt_pow_right (a := 2) (by omega) k8) (by omega)), fun j hj => by
        rw [tb_or2, Bool.or_eq_true, ho.2 j hj, decide_eq_true_eq]
        constructor
        · rintro (⟨a, b⟩ | z)
          · exact ⟨by omega, b⟩
          · subst z; exact ⟨by omega, q1, q2⟩
        · rintro ⟨a, b⟩
          by_cases z : k = j
          · exact .inr z
          · exact .inl ⟨by omega, b⟩⟩
      rw [p4, if_neg (by rw [nN_le (by omega) (by omega)]; omega), L8, nN_mul, nN_add, show nI k + 1 = nI (k + 1) from nN_add k 1, Nat.mul_comm c 8]
      simp only [bit0 hm k8]
      by_cases b : marks.testBit k = false
      · rw [if_pos b]
        exact ih (k + 1) f v (by omega) (by omega) (stay (by rw [b]; simp))
      · have bt : marks.testBit k = true := by cases z : marks.testBit k; exact absurd z b; rfl
        have ib : inB (nI (8 * c + k)) 56 = true := by rw [inB_nI (by omega)]; omega
        have ib2 : inB (nI k) 8 = true := by rw [inB_nI (by omega)]; omega
        rw [if_neg b]
        simp only [ib, ib2, if_true]
        rw [iN_nI (by omega), iN_nI (by omega), shl_n (by omega), nI_or]
        obtain ⟨l1, l2, l3, l4⟩ := p7 k (by omega) (hsub k bt)
        obtain ⟨r1, r2⟩ := p8 c k hc k8
        have s1 := px.2 c k (Nat.le_refl _) (by omega)
        have hU : ∀ c, c < 6 → (pU P c k).natAbs ≤ 9 := fun c hc => (p5 c k hc k8).2
        have b1 := ps_bd (k := k) (x := x) hU (fun c _ => x9 c) c (by omega)
        have b2 := mn_bd (k := k) hU c (by omega)
        have b3 := mn_bd (k := k) hU P.1 (by omega)
        have c1 : (gI h 41 (8 * c + k) + gI h 39 (8 * c + k) < gI h 36 k) = (ps (pU P) k x c + (mx (pU P) k P.1 - mx (pU P) k c) < pl P k) := by
          rw [Int32.lt_iff_toInt_lt, i_add (by rw [s1, r2]; omega) (by rw [s1, r2]; omega), s1, r2, l1]
        have c2 : (gI h 37 k < gI h 41 (8 * c + k) + gI h 38 (8 * c + k)) = (pH P k < ps (pU P) k x c + (mn (pU P) k P.1 - mn (pU P) k c)) := by
          rw [Int32.lt_iff_toInt_lt, i_add (by rw [s1, r1]; omega) (by rw [s1, r1]; omega), s1, r1, l2]
        simp only [c1, c2]
        by_cases d1 : ps (pU P) k x c + (mx (pU P) k P.1 - mx (pU P) k c) < pl P k
        · rw [if_pos d1]
          exact ih (k + 1) f v (by omega) (by omega) (stay (fun q => by have := q.2.1; omega))
        · rw [if_neg d1]
          by_cases d2 : pH P k < ps (pU P) k x c + (mn (pU P) k P.1 - mn (pU P) k c)
          · rw [if_pos d2]
            exact ih (k + 1) f v (by omega) (by omega) (stay (fun q => by have := q.2.2; omega))
          · rw [if_neg d2]
            exact ih (k + 1) f _ (by omega) (by omega) (take bt ⟨by omega, by omega⟩)
  exact main P.2.1 0 (N + 1) 0 (by omega) (by omega) ⟨by omega, fun k hk => by simp⟩
/-- what cannot be met any more is not met -/
theorem okM_rea {P : PB} {c : Nat} {x y : Nat → Nat} {k : Nat} (hc : c ≤ P.1) (y9 : ∀ i, y i < 10) (e : ∀ i, i < c → y i = x i) (h : okM P k y) : rea P c x k := by
  have := ps_rng (U := pU P) (k := k) y9 c (P.1 - c)
  rw [show c + (P.1 - c) = P.1 by omega, ps_congr (c := c) e] at this
  unfold okM at h
  exact ⟨by omega, by omega⟩
theorem rea_okM {P : PB} {x : Nat → Nat} {k : Nat} (h : rea P P.1 x k) : okM P k x := by
  unfold rea at h
  exact ⟨by omega, by omega⟩
