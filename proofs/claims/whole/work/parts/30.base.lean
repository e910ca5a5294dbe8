/-! NUMBERS AND HEAPS: the pure half begins -/
theorem nN_toInt {k : Nat} (h : k < 2147483648) : (nI k).toInt = k := Int32.toInt_ofNat_of_lt h
theorem iN_nI {k : Nat} (h : k < 2147483648) : iN (nI k) = k := Int32.toNatClampNeg_ofNat_of_lt h
theorem nN_lt {a b : Nat} (ha : a < 2147483648) (hb : b < 2147483648) : (nI a < nI b) = (a < b) := by
  rw [Int32.lt_iff_toInt_lt, nN_toInt ha, nN_toInt hb]; exact propext (by omega)
theorem nN_le {a b : Nat} (ha : a < 2147483648) (hb : b < 2147483648) : (nI a ≤ nI b) = (a ≤ b) := by
  rw [Int32.le_iff_toInt_le, nN_toInt ha, nN_toInt hb]; exact propext (by omega)
theorem nN_inj {a b : Nat} (ha : a < 2147483648) (hb : b < 2147483648) : (nI a = nI b) = (a = b) := by
  rw [← Int32.toInt_inj, nN_toInt ha, nN_toInt hb]; exact propext (by omega)
theorem nN_add (a b : Nat) : nI a + nI b = nI (a + b) := (Int32.ofNat_add a b).symm
theorem nN_mul (a b : Nat) : nI a * nI b = nI (a * b) := (Int32.ofNat_mul a b).symm
theorem nN_sub {a b : Nat} (h : b ≤ a) : nI a - nI b = nI (a - b) := (Int32.ofNat_sub a b h).symm
theorem inB_iff {i : Int32} {n : Nat} : (inB i n = true) = (0 ≤ i ∧ iN i < n) := by
  unfold inB iN
  apply propext
  simp only [Bool.not_eq_true', Bool.or_eq_false_iff, decide_eq_false_iff_not, Int32.not_lt, Nat.not_le]
theorem inB_nI {k n : Nat} (h : k < 2147483648) : (inB (nI k) n = true) = (k < n) := by
  rw [inB_iff, iN_nI h]
  have : (0 : Int32) ≤ nI k := by rw [show (0 : Int32) = nI 0 from rfl, nN_le (by omega) h]; omega
  simp [this]
theorem nI_ex {i : Int32} (h : 0 ≤ i) : ∃ k, k < 2147483648 ∧ i = nI k := by
  rw [Int32.le_iff_toInt_le] at h
  have h1 := i.toInt_lt
  have h0 : (0 : Int32).toInt = 0 := rfl
  refine ⟨i.toInt.toNat, by omega, ?_⟩
  rw [← Int32.toInt_inj, nN_toInt (by omega)]
  omega
theorem iN_toInt {i : Int32} : iN i = i.toInt.toNat := rfl
theorem nI_iN {i : Int32} (h : 0 ≤ i) : nI (iN i) = i := by
  obtain ⟨k, hk, rfl⟩ := nI_ex h
  rw [iN_nI hk]
theorem iN_lt (i : Int32) : iN i < 2147483648 := Int32.toNatClampNeg_lt i
theorem L0 : (0 : Int32) = nI 0 := rfl
theorem L1 : (1 : Int32) = nI 1 := rfl
theorem L2 : (2 : Int32) = nI 2 := rfl
theorem L3 : (3 : Int32) = nI 3 := rfl
theorem L4 : (4 : Int32) = nI 4 := rfl
theorem L6 : (6 : Int32) = nI 6 := rfl
theorem L8 : (8 : Int32) = nI 8 := rfl
theorem L9 : (9 : Int32) = nI 9 := rfl
theorem L10 : (10 : Int32) = nI 10 := rfl
theorem L20 : (20 : Int32) = nI 20 := rfl
theorem L60 : (60 : Int32) = nI 60 := rfl
theorem gI_sJ (h : MH) (c k : Nat) (v : Int64) (a b : Nat) : gI (sJ h c k v) a b = gI h a b := rfl
theorem gI_sR (h : MH) (c k : Nat) (v : Nat) (a b : Nat) : gI (sR h c k v) a b = gI h a b := rfl
theorem gJ_sI (h : MH) (c k : Nat) (v : Int32) (a b : Nat) : gJ (sI h c k v) a b = gJ h a b := rfl
theorem gJ_sR (h : MH) (c k : Nat) (v : Nat) (a b : Nat) : gJ (sR h c k v) a b = gJ h a b := rfl
theorem gR_sI (h : MH) (c k : Nat) (v : Int32) (a b : Nat) : gR (sI h c k v) a b = gR h a b := rfl
theorem gR_sJ (h : MH) (c k : Nat) (v : Int64) (a b : Nat) : gR (sJ h c k v) a b = gR h a b := rfl
