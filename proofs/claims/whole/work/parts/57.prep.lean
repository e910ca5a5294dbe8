/-! SLIPS: what moved, on both sides -/
def SVm (hM : MH) (y1 y2 x k0 : Nat) : Prop := x < 256 ∧ ∀ k, k < 8 → (x.testBit k = true ↔ k < k0 ∧ VV hM (nI k) (nI y1) ≠ none ∧ VV hM (nI k) (nI y2) ≠ none)
def loV (hM : MH) (y1 y2 k : Nat) (v : Int32) : Prop := ∀ a b, VV hM (nI k) (nI y1) = some a → VV hM (nI k) (nI y2) = some b → v = b.1 - a.1 - (a.2 + b.2)
def hiV (hM : MH) (y1 y2 k : Nat) (v : Int32) : Prop := ∀ a b, VV hM (nI k) (nI y1) = some a → VV hM (nI k) (nI y2) = some b → v = b.1 - a.1 + (a.2 + b.2)
theorem SV_no {hM : MH} {y1 y2 x k : Nat} (h : SVm hM y1 y2 x k) (q : VV hM (nI k) (nI y1) = none ∨ VV hM (nI k) (nI y2) = none) : SVm hM y1 y2 x (k + 1) := ⟨h.1, fun j hj => by
  rw [h.2 j hj]
  constructor
  · rintro ⟨a, b⟩; exact ⟨by omega, b⟩
  · rintro ⟨a, b, c⟩
    refine ⟨?_, b, c⟩
    by_cases z : j = k
    · subst z
      rcases q with q | q
      · exact absurd q b
      · exact absurd q c
    · omega⟩
theorem SV_yes {hM : MH} {y1 y2 x k : Nat} (hk : k < 8) (h : SVm hM y1 y2 x k) {a b : Int32 × Int32} (q1 : VV hM (nI k) (nI y1) = some a) (q2 : VV hM (nI k) (nI y2) = some b) : SVm hM y1 y2 (x ||| 2 ^ k) (k + 1) := ⟨or_lt h.1 (Nat.lt_of_lt_of_le (Nat.pow_lt_pow_right (a := 2) (by omega) hk) (by omega)), fun j hj => by
  rw [tb_or2, Bool.or_eq_true, h.2 j hj, decide_eq_true_eq]
  constructor
  · rintro (⟨a, b⟩ | z)
    · exact ⟨by omega, b⟩
    · subst z; exact ⟨by omega, by rw [q1]; simp, by rw [q2]; simp⟩
  · rintro ⟨a, b⟩
    by_cases z : k = j
    · exact .inr z
    · exact .inl ⟨by omega, b⟩⟩
def wSee (c k : Nat) : Bool := (c == 68 && k == 67) || c == 104 || c == 105
theorem wSee_v {c k : Nat} (h : vM c k = false) : wSee c k = false := by
  unfold vM at h; unfold wSee; simp at h ⊢; omega
theorem eSee {N : Nat} (hN : 1000 < N) {hS hM : MH} {m' r o m : Nat} (hR : IvR hS hM m' r o) (hm : m ≤ 8) (e33 : gI hM 68 33 = nI m) (y1 y2 : Nat) : ∃ hs mv, f_M_see N (nI y1) (nI y2) hM = some hs ∧ Fr wSee hM hs ∧ gI hs 68 67 = nI mv ∧ SVm hM y1 y2 mv m ∧ ∀ k, k < m → mv.testBit k = true → loV hM y1 y2 k (gI hs 104 k) ∧ hiV hM y1 y2 k (gI hs 105 k) := by
  have main : ∀ (e k f x : Nat) (y : MH), k + e = m → e < f → Fr wSee hM y → gI y 68 67 = nI x → SVm hM y1 y2 x k → (∀ j, j < k → x.testBit j = true → loV hM y1 y2 j (gI y 104 j) ∧ hiV hM y1 y2 j (gI y 105 j)) → ∃ hs mv, L_M_see N f (nI y1) (nI y2) (nI k) y = some hs ∧ Fr wSee hM hs ∧ gI hs 68 67 = nI mv ∧ SVm hM y1 y2 mv m ∧ ∀ k, k < m → mv.testBit k = true → loV hM y1 y2 k (gI hs 104 k) ∧ hiV hM y1 y2 k (gI hs 105 k) := by
    intro e
    induction e with
    | zero =>
      intro k f x y he hf fr hx sv lh
      obtain ⟨f, rfl⟩ : ∃ q, f = q + 1 := ⟨f - 1, by omega⟩
      have : k = m := by omega
      subst this
      refine ⟨y, x, ?_, fr, hx, sv, lh⟩
      show F_M_see_7 N (L_M_see N f) _ _ (nI k) y = _
      unfold F_M_see_7
      rw [fr.i 68 33 rfl, e33, if_pos (by rw [nN_le (by omega) (by omega)]; omega)]
    | succ e ih =>
      intro k f x y he hf fr hx sv lh
      obtain ⟨f, rfl⟩ : ∃ q, f = q + 1 := ⟨f - 1, by omega⟩
      show ∃ hs mv, F_M_see_7 N (L_M_see N f) (nI y1) (nI y2) (nI k) y = some hs ∧ _
      unfold F_M_see_7
      have fv := fr.mono (W' := vM) (fun _ _ => wSee_v)
      have v1 := eM_VV (N := N) (by omega) hR fv (nI k) (nI y1)
      have v2 := eM_VV (N := N) (by omega) hR fv (nI k) (nI y2)
      rw [fr.i 68 33 rfl, e33, if_neg (by rw [nN_le (by omega) (by omega)]; omega), show nI k + 1 = nI (k + 1) from nN_add k 1]
      have lh' : ∀ j, j < k + 1 → x.testBit j = true → j ≠ k := fun j j1 j2 j3 => by
        subst j3
        have := (sv.2 j (by omega)).mp j2
        omega
      cases q1 : VV hM (nI k) (nI y1) with
      | none =>
        rw [q1] at v1
        simp only at v1
        rw [v1, bnd_some]
        dsimp only
        have nxt := ih (k + 1) f x y (by omega) (by omega) fr hx (SV_no sv (.inl q1)) (fun j j1 j2 => lh j (by have := lh' j j1 j2; omega) j2)
        cases q2 : VV hM (nI k) (nI y2) with
        | none =>
          rw [q2] at v2
          simp only at v2
          rw [v2, bnd_some, if_pos rfl]
          exact nxt
        | some b =>
          rw [q2] at v2
          simp only at v2
          obtain ⟨kb, b1, b2, -⟩ := v2
          rw [b2, bnd_some, if_pos rfl]
          exact nxt
      | some a =>
        rw [q1] at v1
        simp only at v1
        obtain ⟨ka, a1, a2, a3, a4, a5⟩ := v1
        rw [a2, bnd_some]
        dsimp only
        cases q2 : VV hM (nI k) (nI y2) with
        | none =>
          rw [q2] at v2
          simp only at v2
          rw [v2, bnd_some]
          dsimp only
          rw [if_neg (m1_ne (by omega)), if_pos rfl]
          exact ih (k + 1) f x y (by omega) (by omega) fr hx (SV_no sv (.inr q2)) (fun j j1 j2 => lh j (by have := lh' j j1 j2; omega) j2)
        | some b =>
          rw [q2] at v2
          simp only at v2
          obtain ⟨kb, b1, b2, b3, b4, b5⟩ := v2
          rw [b2, bnd_some]
          dsimp only
          rw [if_neg (m1_ne (by omega)), if_neg (m1_ne (by omega)), hx, shl_n (by omega), nI_or]
          have fr1 : Fr wSee hM (sI y 68 67 (nI (x ||| 2 ^ k))) := fr.sI 68 67 _ rfl
          have fv1 := fr1.mono (W' := vM) (fun _ _ => wSee_v)
          have u1 := eM_VV (N := N) (by omega) hR fv1 (nI k) (nI y1)
          have u2 := eM_VV (N := N) (by omega) hR fv1 (nI k) (nI y2)
          rw [q1] at u1
          rw [q2] at u2
          simp only at u1 u2
          obtain ⟨ka', c1, c2, c3, c4, -⟩ := u1
          obtain ⟨kb', d1, d2, d3, d4, -⟩ := u2
          -- the rows are the same ones
          have ra : ka' = ka := by
            have e1 : f_M_rowOf N (nI k) (nI y1) (sI y 68 67 (nI (x ||| 2 ^ k))) = some (rwI (rwS (sI y 68 67 (nI (x ||| 2 ^ k))) (nI k) (nI y1) r), sI y 68 67 (nI (x ||| 2 ^ k))) := eM_rowOf (by omega) hR.1.1 (by rw [fr1.i 68 48 rfl]; exact hR.2.1.2) _ _
            have e2 : f_M_rowOf N (nI k) (nI y1) y = some (rwI (rwS y (nI k) (nI y1) r), y) := eM_rowOf (by omega) hR.1.1 (by rw [fr.i 68 48 rfl]; exact hR.2.1.2) _ _
            rw [rwS_fr fr1 (fun k => ⟨rfl, rfl, rfl⟩) rfl] at e1
            rw [rwS_fr fr (fun k => ⟨rfl, rfl, rfl⟩) rfl] at e2
            rw [c2] at e1
            rw [a2] at e2
            have e3 : nI ka' = nI ka := by
              have h1 := congrArg (fun z => z.map (fun q => q.1)) e1
              have h2 := congrArg (fun z => z.map (fun q => q.1)) e2
              simp at h1 h2
              rw [h1, h2]
            rwa [nN_inj (by omega) (by omega)] at e3
          have rb : kb' = kb := by
            have e1 : f_M_rowOf N (nI k) (nI y2) (sI y 68 67 (nI (x ||| 2 ^ k))) = some (rwI (rwS (sI y 68 67 (nI (x ||| 2 ^ k))) (nI k) (nI y2) r), sI y 68 67 (nI (x ||| 2 ^ k))) := eM_rowOf (by omega) hR.1.1 (by rw [fr1.i 68 48 rfl]; exact hR.2.1.2) _ _
            have e2 : f_M_rowOf N (nI k) (nI y2) y = some (rwI (rwS y (nI k) (nI y2) r), y) := eM_rowOf (by omega) hR.1.1 (by rw [fr.i 68 48 rfl]; exact hR.2.1.2) _ _
            rw [rwS_fr fr1 (fun k => ⟨rfl, rfl, rfl⟩) rfl] at e1
            rw [rwS_fr fr (fun k => ⟨rfl, rfl, rfl⟩) rfl] at e2
            rw [d2] at e1
            rw [b2] at e2
            have e3 : nI kb' = nI kb := by
              have h1 := congrArg (fun z => z.map (fun q => q.1)) e1
              have h2 := congrArg (fun z => z.map (fun q => q.1)) e2
              simp at h1 h2
              rw [h1, h2]
            rwa [nN_inj (by omega) (by omega)] at e3
          subst ra
          subst rb
          rw [d3, bnd_some]
          dsimp only
          rw [c3, bnd_some]
          dsimp only
          have ia : inB (nI ka') 160 = true := by rw [inB_nI (by omega)]; exact c1
          have ibb : inB (nI kb') 160 = true := by rw [inB_nI (by omega)]; exact d1
          have ik : inB (nI k) 8 = true := by rw [inB_nI (by omega)]; omega
          simp only [ia, ibb, ik, if_true]
          rw [iN_nI (by omega), iN_nI (by omega), iN_nI (by omega), c4, d4]
          have g1 : ∀ v, gI (sI (sI y 68 67 (nI (x ||| 2 ^ k))) 104 k v) 98 ka' = a.2 := fun v => c4
          have g2 : ∀ v, gI (sI (sI y 68 67 (nI (x ||| 2 ^ k))) 104 k v) 98 kb' = b.2 := fun v => d4
          rw [g1, g2]
          refine ih (k + 1) f (x ||| 2 ^ k) _ (by omega) (by omega) ((fr1.sI 104 k _ rfl).sI 105 k _ rfl) rfl (SV_yes (by omega) sv q1 q2) (fun j j1 j2 => ?_)
          by_cases z : j = k
          · subst z
            refine ⟨fun p q e1 e2 => ?_, fun p q e1 e2 => ?_⟩
            · rw [q1] at e1; rw [q2] at e2
              cases e1; cases e2
              have : gI (sI (sI (sI y 68 67 (nI (x ||| 2 ^ j))) 104 j (b.1 - a.1 - a.2 - b.2)) 105 j (b.1 - a.1 + a.2 + b.2)) 104 j = b.1 - a.1 - a.2 - b.2 := by rw [gI_sI, gI_sI]; simp
              rw [this]; grind
            · rw [q1] at e1; rw [q2] at e2
              cases e1; cases e2
              have : gI (sI (sI (sI y 68 67 (nI (x ||| 2 ^ j))) 104 j (b.1 - a.1 - a.2 - b.2)) 105 j (b.1 - a.1 + a.2 + b.2)) 105 j = b.1 - a.1 + a.2 + b.2 := by rw [gI_sI]; simp
              rw [this]; grind
          · rw [tb_or2, Bool.or_eq_true, decide_eq_true_eq] at j2
            have := lh j (by omega) (by rcases j2 with q | q; exact q; exact absurd q.symm z)
            simpa [gI_sI, z] using this
  obtain ⟨hs, mv, a1, a2⟩ := main m 0 (N + 1) 0 (sI hM 68 67 0) (by omega) (by omega) (Fr.rfl.sI 68 67 _ rfl) rfl ⟨by omega, fun k hk => by simp⟩ (fun j hj => by omega)
  exact ⟨hs, mv, a1, a2⟩
