/-! SLIPS: quarrel, noting a set and all in it -/
def subS (a w : Nat) : Prop := ∀ k, k < 8 → a.testBit k = true → w.testBit k = true
theorem inv_d : ∀ w : Fin 256, nI w ^^^ (-1) = nI (255 ^^^ w.val) ||| (-256) := by decide +kernel
theorem high_d : ∀ a : Fin 256, nI a &&& (-256) = 0 := by decide +kernel
theorem b255 : ∀ k : Fin 8, Nat.testBit 255 k.val = true := by decide
theorem sub_iff {a w : Nat} (ha : a < 256) : a &&& (255 ^^^ w) = 0 ↔ subS a w := by
  constructor
  · intro e k hk hb
    have := congrArg (fun z => z.testBit k) e
    simp only [Nat.testBit_and, Nat.testBit_xor, hb, b255 ⟨k, hk⟩, Nat.zero_testBit] at this
    simpa using this
  · intro s
    apply Nat.eq_of_testBit_eq
    intro k
    rw [Nat.testBit_and, Nat.testBit_xor, Nat.zero_testBit]
    by_cases hk : k < 8
    · cases z : a.testBit k
      · rfl
      · rw [s k hk z, b255 ⟨k, hk⟩]; rfl
    · rw [Nat.testBit_lt_two_pow (Nat.lt_of_lt_of_le ha (Nat.pow_le_pow_right (n := 2) (i := 8) (by omega) (by omega)))]; rfl
theorem and_or_I (a b c : Int32) : a &&& (b ||| c) = (a &&& b) ||| (a &&& c) := by
  apply Int32.toBitVec_inj.mp
  simp only [Int32.toBitVec_and, Int32.toBitVec_or]
  apply BitVec.eq_of_getLsbD_eq
  intro i hi
  simp only [BitVec.getLsbD_and, BitVec.getLsbD_or]
  cases a.toBitVec.getLsbD i <;> simp
theorem sub_I {a w : Nat} (ha : a < 256) (hw : w < 256) : (nI a &&& (nI w ^^^ (-1)) = 0) ↔ subS a w := by
  have e1 : nI w ^^^ (-1) = nI (255 ^^^ w) ||| (-256) := inv_d ⟨w, hw⟩
  have e2 : nI a &&& (-256) = 0 := high_d ⟨a, ha⟩
  have lt : a &&& (255 ^^^ w) < 256 := Nat.lt_of_le_of_lt Nat.and_le_left ha
  rw [e1, and_or_I, e2, nI_and, Int32.or_zero, ← sub_iff ha, show (0 : Int32) = nI 0 from rfl, nN_inj (by omega) (by omega)]
def w47 (c _k : Nat) : Bool := c == 47
theorem eNoteMet {N : Nat} (hN : 1000 < N) {w : Nat} (hw : w < 256) (h : MH) : ∃ h', f_Walk_noteMet N (nI w) h = some h' ∧ Fr w47 h h' ∧ ∀ a, a < 256 → (subS a w → gI h' 47 a = 1) ∧ (¬ subS a w → gI h' 47 a = gI h 47 a) := by
  have main : ∀ (d a f : Nat) (y : MH), a + d = 256 → d < f → Fr w47 h y → (∀ b, b < 256 → (b < a → subS b w → gI y 47 b = 1) ∧ ((a ≤ b ∨ ¬ subS b w) → gI y 47 b = gI h 47 b)) → ∃ h', L_Walk_noteMet N f (nI w) (nI a) y = some h' ∧ Fr w47 h h' ∧ ∀ a, a < 256 → (subS a w → gI h' 47 a = 1) ∧ (¬ subS a w → gI h' 47 a = gI h 47 a) := by
    intro d
    induction d with
    | zero =>
      intro a f y hd hf fr inv
      obtain ⟨f, rfl⟩ : ∃ z, f = z + 1 := ⟨f - 1, by omega⟩
      have : a = 256 := by omega
      subst this
      refine ⟨y, ?_, fr, fun b hb => ⟨fun q => (inv b hb).1 hb q, fun q => (inv b hb).2 (.inr q)⟩⟩
      show F_Walk_noteMet_2 N (L_Walk_noteMet N f) _ (nI 256) y = _
      unfold F_Walk_noteMet_2
      rw [if_pos (by decide)]
    | succ d ih =>
      intro a f y hd hf fr inv
      obtain ⟨f, rfl⟩ : ∃ z, f = z + 1 := ⟨f - 1, by omega⟩
      show ∃ h', F_Walk_noteMet_2 N (L_Walk_noteMet N f) (nI w) (nI a) y = some h' ∧ _
      unfold F_Walk_noteMet_2
      have si := sub_I (a := a) (w := w) (by omega) hw
      rw [show (256 : Int32) = nI 256 from rfl, if_neg (by rw [nN_le (by omega) (by omega)]; omega), show nI a + 1 = nI (a + 1) from nN_add a 1]
      dsimp only
      have ib : inB (nI a) 256 = true := by rw [inB_nI (by omega)]; omega
      by_cases z : subS a w
      · rw [if_pos (si.mpr z), if_pos ib, iN_nI (by omega)]
        refine ih (a + 1) f _ (by omega) (by omega) (fr.sI 47 a _ rfl) (fun b hb => ?_)
        rw [gI_sI]
        by_cases e : b = a
        · rw [if_pos ⟨rfl, e⟩]
          refine ⟨fun _ _ => by decide, fun q => ?_⟩
          rcases q with q | q
          · omega
          · rw [e] at q; exact absurd z q
        · rw [if_neg (by omega)]
          exact ⟨fun q1 q2 => (inv b hb).1 (by omega) q2, fun q => (inv b hb).2 (by rcases q with q | q; exact .inl (by omega); exact .inr q)⟩
      · rw [if_neg (fun q => z (si.mp q))]
        refine ih (a + 1) f y (by omega) (by omega) fr (fun b hb => ⟨fun q1 q2 => ?_, fun q => (inv b hb).2 (by rcases q with q | q; exact .inl (by omega); exact .inr q)⟩)
        by_cases e : b = a
        · rw [e] at q2; exact absurd q2 z
        · exact (inv b hb).1 (by omega) q2
  exact main 256 0 (N + 1) h (by omega) (by omega) Fr.rfl (fun b hb => ⟨fun q => absurd q (Nat.not_lt_zero _), fun _ => rfl⟩)
