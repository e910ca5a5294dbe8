/-! SLIPS: quarrel, the class's loop over all sets -/
theorem lQuarS {N mv : Nat} (hmv : mv < 256) {h0 : MH} (h33 : gI h0 33 2 = nI mv) {U : Nat → Prop} (hU : ∀ a, a < 256 → (U a ↔ subS a mv ∧ gI h0 47 a = 0)) : ∀ (d A f : Nat) (h : MH), A + d = 256 → d < f → Fr wU h0 h → QS h (qst U A) → ∃ h', (L_Walk_findQuarrel N f).2 (nI A) h = some h' ∧ Fr wU h0 h' ∧ QS h' (qst U 256) := by
  intro d
  induction d with
  | zero =>
    intro A f h hd hf fr q
    obtain ⟨f, rfl⟩ : ∃ z, f = z + 1 := ⟨f - 1, by omega⟩
    have : A = 256 := by omega
    subst this
    refine ⟨h, ?_, fr, q⟩
    show F_Walk_findQuarrel_50 N (L_Walk_findQuarrel N f) (nI 256) h = _
    unfold F_Walk_findQuarrel_50
    rw [if_pos (by decide)]
  | succ d ih =>
    intro A f h hd hf fr q
    obtain ⟨f, rfl⟩ : ∃ z, f = z + 1 := ⟨f - 1, by omega⟩
    show ∃ h', F_Walk_findQuarrel_50 N (L_Walk_findQuarrel N f) (nI A) h = some h' ∧ _
    unfold F_Walk_findQuarrel_50
    have si := sub_I (a := A) (w := mv) (by omega) hmv
    have ib : inB (nI A) 256 = true := by rw [inB_nI (by omega)]; omega
    have u := hU A (by omega)
    rw [show (256 : Int32) = nI 256 from rfl, if_neg (by rw [nN_le (by omega) (by omega)]; omega), fr.i 33 2 rfl, h33, show nI A + 1 = nI (A + 1) from nN_add A 1]
    dsimp only
    by_cases z : subS A mv
    case neg =>
      rw [if_neg (fun w => z (si.mp w))]
      exact ih (A + 1) f h (by omega) (by omega) fr (by rw [qst_no (fun w => z (u.mp w).1)]; exact q)
    rw [if_pos (si.mpr z), if_pos ib, iN_nI (by omega), fr.i 47 A rfl]
    by_cases y : gI h0 47 A = 0
    case neg =>
      rw [if_neg y]
      exact ih (A + 1) f h (by omega) (by omega) fr (by rw [qst_no (fun w => y (u.mp w).2)]; exact q)
    rw [if_pos y]
    obtain ⟨h', a1, a2, a3⟩ := eUnmet (N := N) (A := A) (by omega) q (fun L S C e => (qst_bd A (by omega) L S C e).1)
    rw [a1, bnd_some]
    exact ih (A + 1) f h' (by omega) (by omega) (fr.trans a2) (by rw [qst_yes (u.mpr ⟨z, y⟩)]; exact a3)
