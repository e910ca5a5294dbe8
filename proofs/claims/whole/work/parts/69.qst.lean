/-! SLIPS: quarrel, the least unmet sets -/
def qup (A : Nat) : Option (Nat × Nat × Nat) → Nat × Nat × Nat
  | none => (pb A, A, 1)
  | some (L, S, C) => if pb A < L then (pb A, A, 1) else if pb A = L then (L, S, C + 1) else (L, S, C)
noncomputable def qst (U : Nat → Prop) : Nat → Option (Nat × Nat × Nat)
  | 0 => none
  | A + 1 => @ite _ (U A) (Classical.propDecidable _) (some (qup A (qst U A))) (qst U A)
theorem qst_yes {U : Nat → Prop} {A : Nat} (h : U A) : qst U (A + 1) = some (qup A (qst U A)) := by
  show @ite _ (U A) (Classical.propDecidable _) _ _ = _
  rw [if_pos h]
theorem qst_no {U : Nat → Prop} {A : Nat} (h : ¬ U A) : qst U (A + 1) = qst U A := by
  show @ite _ (U A) (Classical.propDecidable _) _ _ = _
  rw [if_neg h]
theorem qst_stay {U : Nat → Prop} {A : Nat} : ∀ d, (∀ a, A ≤ a → a < A + d → ¬ U a) → qst U (A + d) = qst U A
  | 0, _ => rfl
  | d + 1, h => by
    show qst U ((A + d) + 1) = _
    rw [qst_no (h (A + d) (by omega) (by omega))]
    exact qst_stay d (fun a h1 h2 => h a h1 (by omega))
theorem qst_bd {U : Nat → Prop} : ∀ A, A ≤ 256 → ∀ L S C, qst U A = some (L, S, C) → L ≤ 8 ∧ S < A ∧ 1 ≤ C ∧ C ≤ A
  | 0, _ => fun L S C h => by exact absurd h (by simp [qst])
  | A + 1, hA => fun L S C h => by
    have p8 : pb A ≤ 8 := (pb_d ⟨A, by omega⟩).2
    by_cases u : U A
    · rw [qst_yes u] at h
      cases q : qst U A with
      | none =>
        rw [q] at h
        simp only [qup, Option.some.injEq, Prod.mk.injEq] at h
        omega
      | some t =>
        obtain ⟨L', S', C'⟩ := t
        have ih := qst_bd A (by omega) L' S' C' q
        rw [q] at h
        simp only [qup, Option.some.injEq] at h
        split at h
        · simp only [Prod.mk.injEq] at h; omega
        · split at h
          · simp only [Prod.mk.injEq] at h; omega
          · simp only [Prod.mk.injEq] at h; omega
    · rw [qst_no u] at h
      have ih := qst_bd A (by omega) L S C h
      omega
