/-! SLIPS: quarrel, how many marks a set has -/
def pb (a : Nat) : Nat := (a.testBit 0).toNat + (a.testBit 1).toNat + (a.testBit 2).toNat + (a.testBit 3).toNat + (a.testBit 4).toNat + (a.testBit 5).toNat + (a.testBit 6).toNat + (a.testBit 7).toNat
theorem pb_d : ∀ s : Fin 256, bcI (nI s) = nI (pb s) ∧ pb s ≤ 8 := by decide +kernel
theorem pb_s : ∀ s : Fin 256, s.val ≠ 0 → nI s &&& (nI s - 1) = nI (s.val &&& (s.val - 1)) ∧ pb s = pb (s.val &&& (s.val - 1)) + 1 ∧ s.val &&& (s.val - 1) < s.val := by decide +kernel
theorem eBC {N s : Nat} (hs : s < 256) (h : MH) : f_Integer_bitCount N (nI s) h = some (nI (pb s), h) := by
  have := (pb_d ⟨s, hs⟩).1
  show some (bcI (nI s), h) = _
  rw [this]
theorem eBitsM {N s : Nat} (hN : 1000 < N) (hs : s < 256) (h : MH) : f_M_bits N (nI s) h = some (nI (pb s), h) := by
  have main : ∀ (s f n : Nat), s < 256 → s < f → L_M_bits N f (nI n) (nI s) h = some (nI (n + pb s), h) := by
    intro s
    induction s using Nat.strongRecOn with
    | _ s ih =>
      intro f n hs hf
      obtain ⟨f, rfl⟩ : ∃ z, f = z + 1 := ⟨f - 1, by omega⟩
      show F_M_bits_4 N (L_M_bits N f) (nI n) (nI s) h = _
      unfold F_M_bits_4
      by_cases z : s = 0
      · subst z
        rw [if_pos (show nI 0 = 0 from rfl)]
        rfl
      · obtain ⟨a, b, c⟩ := pb_s ⟨s, hs⟩ z
        have c' : s &&& (s - 1) < s := c
        have b' : pb s = pb (s &&& (s - 1)) + 1 := b
        rw [if_neg (by rw [show (0 : Int32) = nI 0 from rfl, nN_inj (by omega) (by omega)]; exact z), show nI n + 1 = nI (n + 1) from nN_add n 1]
        dsimp only
        have a' : nI s &&& (nI s - 1) = nI (s &&& (s - 1)) := a
        rw [a', ih _ c' f (n + 1) (by omega) (by omega), b', show n + 1 + pb (s &&& (s - 1)) = n + (pb (s &&& (s - 1)) + 1) by omega]
  have := main s (N + 1) 0 hs (by omega)
  rw [Nat.zero_add] at this
  exact this
