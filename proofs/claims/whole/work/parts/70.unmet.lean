/-! SLIPS: quarrel, the class notes an unmet set -/
def QS (h : MH) : Option (Nat × Nat × Nat) → Prop
  | none => gI h 42 13 = 9 ∧ gI h 42 15 = 0
  | some (L, S, C) => gI h 42 13 = nI L ∧ gI h 42 14 = nI S ∧ gI h 42 15 = nI C
def wU (c k : Nat) : Bool := c == 42 && (13 ≤ k && k ≤ 15)
theorem eNew {N A : Nat} (h : MH) : F_Walk_noteUnmet_28 N (nI (pb A)) (sI (sI (sI h 42 13 (nI (pb A))) 42 14 (nI A)) 42 15 0) = some (sI (sI (sI (sI h 42 13 (nI (pb A))) 42 14 (nI A)) 42 15 0) 42 15 1) := by
  unfold F_Walk_noteUnmet_28
  have e : gI (sI (sI (sI h 42 13 (nI (pb A))) 42 14 (nI A)) 42 15 0) 42 13 = nI (pb A) := rfl
  rw [e, if_pos rfl]
  rfl
theorem eUnmet {N A : Nat} (hA : A < 256) {h : MH} {q : Option (Nat × Nat × Nat)} (hq : QS h q) (hb : ∀ L S C, q = some (L, S, C) → L ≤ 8) : ∃ h', f_Walk_noteUnmet N (nI A) h = some h' ∧ Fr wU h h' ∧ QS h' (some (qup A q)) := by
  have p8 : pb A ≤ 8 := (pb_d ⟨A, hA⟩).2
  have fn : Fr wU h (sI (sI (sI (sI h 42 13 (nI (pb A))) 42 14 (nI A)) 42 15 0) 42 15 1) := (((Fr.rfl.sI 42 13 _ rfl).sI 42 14 _ rfl).sI 42 15 _ rfl).sI 42 15 _ rfl
  unfold f_Walk_noteUnmet
  rw [eBC hA, bnd_some]
  dsimp only
  cases q with
  | none =>
    obtain ⟨q1, q2⟩ := hq
    rw [q1, show (9 : Int32) = nI 9 from rfl, if_neg (by rw [nN_le (by omega) (by omega)]; omega), eNew]
    exact ⟨_, rfl, fn, rfl, rfl, rfl⟩
  | some t =>
    obtain ⟨L, S, C⟩ := t
    obtain ⟨q1, q2, q3⟩ := hq
    have l8 := hb L S C rfl
    rw [q1]
    by_cases z : pb A < L
    · rw [if_neg (by rw [nN_le (by omega) (by omega)]; omega), eNew]
      refine ⟨_, rfl, fn, ?_⟩
      simp only [qup, z, if_true]
      exact ⟨rfl, rfl, rfl⟩
    · rw [if_pos (by rw [nN_le (by omega) (by omega)]; omega)]
      unfold F_Walk_noteUnmet_28
      rw [q1]
      by_cases y : pb A = L
      · rw [if_pos (by rw [y]), q3, show nI C + 1 = nI (C + 1) from nN_add C 1]
        refine ⟨_, rfl, Fr.rfl.sI 42 15 _ rfl, ?_⟩
        simp only [qup, z, y, if_true, if_false]
        rw [if_neg (by omega)]
        exact ⟨q1, q2, rfl⟩
      · rw [if_neg (by rw [nN_inj (by omega) (by omega)]; exact y)]
        refine ⟨_, rfl, Fr.rfl, ?_⟩
        simp only [qup, z, y, if_false]
        exact ⟨q1, q2, q3⟩
