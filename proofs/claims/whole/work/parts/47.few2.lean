/-! FEW: the search, the sharing out -/
def wFS (c _k : Nat) : Bool := 51 ≤ c && c ≤ 53
def wFM (c _k : Nat) : Bool := 113 ≤ c && c ≤ 115
/-- what the trays say of the classes -/
def usT (hM : MH) (t i : Nat) : Nat := (gJ hM 71 (60 * t + i)).toInt.toNat
theorem usT_ok {hM : MH} {t many : Nat} (aw : awT hM t 1 99 many) {i : Nat} (hi : i < many) : 1 ≤ usT hM t i ∧ usT hM t i ≤ 99 ∧ (gJ hM 71 (60 * t + i)).toInt32 = nI (usT hM t i) := by
  obtain ⟨h1, h2⟩ := aw i hi
  rw [Int64.le_iff_toInt_le] at h1 h2
  have e1 : (1 : Int64).toInt = 1 := rfl
  have e2 : (99 : Int64).toInt = 99 := rfl
  unfold usT
  refine ⟨by omega, by omega, ?_⟩
  rw [← Int32.toInt_inj, Int64.toInt_toInt32, nN_toInt (by omega)]
  rw [show (2 : Nat) ^ 32 = 2 ^ 32 from rfl, bm32 (by omega) (by omega)]
  omega
theorem CM_fr {h h' : MH} {us : Nat → Nat} {many k : Nat} (c : CM h us many k) (W : Nat → Nat → Bool) (f : Fr W h h') (w : ∀ q, W 113 q = false) : CM h' us many k := fun t ht => by
  rw [f.i 113 _ (w _)]; exact c t ht
/-- both tables at one place -/
theorem TR {L : List Nat} {t : Nat} {a b : Int32} (h1 : ∀ v ∈ L, 1 ≤ v) (x : IsMin L t 1000000 a) (y : IsMin L t 100000000 b) : (∃ k, k ≤ t ∧ Rep L t k ∧ (∀ j, Rep L t j → k ≤ j) ∧ a = nI k ∧ b = nI k) ∨ ((∀ n, ¬ Rep L t n) ∧ a = 1000000 ∧ b = 100000000) := by
  rcases x with ⟨n, a1, a2, a3⟩ | ⟨a1, a2⟩
  · rcases y with ⟨k, b1, b2, b3⟩ | ⟨b1, b2⟩
    · have : n = k := Nat.le_antisymm (a2 k b1) (b2 n a1)
      subst this
      exact .inl ⟨n, Rep_le h1 a1, a1, a2, a3, b3⟩
    · exact absurd a1 (b1 n)
  · rcases y with ⟨k, b1, b2, b3⟩ | ⟨b1, b2⟩
    · exact absurd b1 (a1 k)
    · exact .inr ⟨a1, a2, b2⟩
theorem fl_pos {us : Nat → Nat} {many a l : Nat} (hu : ∀ i, i < many → 1 ≤ us i ∧ us i ≤ 99) (hl : a + l ≤ many) : ∀ v ∈ fl us a l, 1 ≤ v := fun v hv => by
  obtain ⟨i, hi, rfl⟩ := fl_mem hv
  exact (hu _ (by omega)).1
/-- one class shared out, on both sides alike -/
theorem lShareIn {N : Nat} {us : Nat → Nat} {many : Nat} (hmany : many ≤ 8) (hu : ∀ i, i < many → 1 ≤ us i ∧ us i ≤ 99) {i s c c0 : Nat} (hi : i < many) (hs : s ≤ 2000) (k1 : c0 * us i ≤ s) (k2 : c0 ≤ c) (k3 : Rep (fl us (i + 1) (many - (i + 1))) (s - c0 * us i) (c - c0)) (kmin : ∀ j, Rep (us i :: fl us (i + 1) (many - (i + 1))) s j → c ≤ j) (hc : c ≤ s) {hx hy : MH} (cf : CF hx (fl us (i + 1) (many - (i + 1))) s) (cm : CM hy us many (i + 1)) (e51 : gI hx 51 i = nI (us i)) (e115 : gI hy 115 i = nI (us i)) (al : Int32) (res : Option MH → Option (Int32 × MH) → Prop) (K : Nat)
    (cont : ∀ n n' τ, K ≤ n → K ≤ n' → τ * us i ≤ s → τ ≤ c → Rep (fl us (i + 1) (many - (i + 1))) (s - τ * us i) (c - τ) → (∀ j, Rep (fl us (i + 1) (many - (i + 1))) (s - τ * us i) j → c - τ ≤ j) → res ((L_Few_share N n).1 (nI many) (nI (s - τ * us i)) (nI (c - τ)) (nI (i + 1)) (sI hx 52 i (nI τ))) ((L_M_few N n').2.2.2.2.2.1 (nI many) al (nI (s - τ * us i)) (nI (c - τ)) (nI (i + 1)) (sI hy 114 i (nI τ)))) :
    ∀ (e τ n n' : Nat), τ + e = c0 → K + e < n → K + e < n' → res ((L_Few_share N n).2 (nI many) (nI (s - τ * us i)) (nI c) (nI i) (nI τ) hx) ((L_M_few N n').2.2.2.2.2.2 (nI many) al (nI (s - τ * us i)) (nI (c - τ)) (nI i) (nI τ) hy) := by
  have u := hu i hi
  have pos := fl_pos (us := us) (many := many) (a := i + 1) (l := many - (i + 1)) hu (by omega)
  intro e
  induction e with
  | zero =>
    intro τ n n' hτ hn hn'
    obtain ⟨n, rfl⟩ : ∃ q, n = q + 1 := ⟨n - 1, by omega⟩
    obtain ⟨n', rfl⟩ : ∃ q, n' = q + 1 := ⟨n' - 1, by omega⟩
    have : τ = c0 := by omega
    subst this
    have hmin : ∀ j, Rep (fl us (i + 1) (many - (i + 1))) (s - τ * us i) j → c - τ ≤ j := fun j hj => by
      have := kmin (j + τ) ⟨τ, k1, by omega, by rw [show j + τ - τ = j by omega]; exact hj⟩
      omega
    have tr := TR pos (cf (s - τ * us i) (by omega)) (cm (s - τ * us i) (by omega))
    rcases tr with ⟨k, q1, q2, q3, q4, q5⟩ | ⟨q1, -, -⟩
    case inr => exact absurd k3 (q1 _)
    have ek : k = c - τ := Nat.le_antisymm (q3 _ k3) (hmin _ q2)
    have fin := cont n n' τ (by omega) (by omega) k1 k2 k3 hmin
    have b8 : inB (nI i) 8 = true := by rw [inB_nI (by omega)]; omega
    have sub : nI c - nI τ = nI (c - τ) := nN_sub k2
    have S : (L_Few_share N (n + 1)).2 (nI many) (nI (s - τ * us i)) (nI c) (nI i) (nI τ) hx = (L_Few_share N n).1 (nI many) (nI (s - τ * us i)) (nI (c - τ)) (nI (i + 1)) (sI hx 52 i (nI τ)) := by
      show F_Few_share_36 N (L_Few_share N n) (nI many) (nI (s - τ * us i)) (nI c) (nI i) (nI τ) hx = _
      have e88 : F_Few_share_88 N (L_Few_share N n) (nI many) (nI (s - τ * us i)) (nI c) (nI i) (nI τ) hx = (L_Few_share N n).1 (nI many) (nI (s - τ * us i)) (nI (c - τ)) (nI (i + 1)) (sI hx 52 i (nI τ)) := by
        unfold F_Few_share_88
        rw [if_pos b8, iN_nI (by omega), sub, show nI i + 1 = nI (i + 1) from nN_add i 1]
      unfold F_Few_share_36
      rw [e88, iN_nI (show i < 2147483648 by omega), e51, iN_nI (show s - τ * us i < 2147483648 by omega), q4, ek, sub]
      rw [if_pos b8, if_pos (show inB (nI (s - τ * us i)) 2001 = true by rw [inB_nI (by omega)]; omega), if_pos rfl]
      split
      · rfl
      · split <;> rfl
    have M : (L_M_few N (n' + 1)).2.2.2.2.2.2 (nI many) al (nI (s - τ * us i)) (nI (c - τ)) (nI i) (nI τ) hy = (L_M_few N n').2.2.2.2.2.1 (nI many) al (nI (s - τ * us i)) (nI (c - τ)) (nI (i + 1)) (sI hy 114 i (nI τ)) := by
      show F_M_few_402 N (L_M_few N n') (nI many) al (nI (s - τ * us i)) (nI (c - τ)) (nI i) (nI τ) hy = _
      unfold F_M_few_402
      rw [show nI i + 1 = nI (i + 1) from nN_add i 1, show (2001 : Int32) = nI 2001 from rfl, nN_mul, nN_add, if_pos (by rw [inB_nI (by omega)]; omega), iN_nI (by omega), q5, ek, if_pos rfl, if_pos b8, iN_nI (by omega)]
    rw [S, M]
    exact fin
  | succ e ih =>
    intro τ n n' hτ hn hn'
    obtain ⟨n, rfl⟩ : ∃ q, n = q + 1 := ⟨n - 1, by omega⟩
    obtain ⟨n', rfl⟩ : ∃ q, n' = q + 1 := ⟨n' - 1, by omega⟩
    have hm1 : (τ + 1) * us i ≤ c0 * us i := Nat.mul_le_mul_right _ (by omega)
    rw [Nat.succ_mul] at hm1
    have b8 : inB (nI i) 8 = true := by rw [inB_nI (by omega)]; omega
    have b9 : inB (nI (s - τ * us i)) 2001 = true := by rw [inB_nI (by omega)]; omega
    have sub : nI c - nI τ = nI (c - τ) := nN_sub (by omega)
    have tr := TR pos (cf (s - τ * us i) (by omega)) (cm (s - τ * us i) (by omega))
    have nx1 : nI (s - τ * us i) - nI (us i) = nI (s - (τ + 1) * us i) := by rw [nN_sub (by omega), Nat.succ_mul]; congr 1; omega
    have nx2 : nI (c - τ) + -1 = nI (c - (τ + 1)) := by rw [show c - τ = (c - (τ + 1)) + 1 by omega]; exact nN_pred
    -- the class's side: go on, or leave
    have S : (L_Few_share N (n + 1)).2 (nI many) (nI (s - τ * us i)) (nI c) (nI i) (nI τ) hx = if gI hx 53 (s - τ * us i) = nI (c - τ) then (L_Few_share N n).1 (nI many) (nI (s - τ * us i)) (nI (c - τ)) (nI (i + 1)) (sI hx 52 i (nI τ)) else (L_Few_share N n).2 (nI many) (nI (s - (τ + 1) * us i)) (nI c) (nI i) (nI (τ + 1)) hx := by
      show F_Few_share_36 N (L_Few_share N n) (nI many) (nI (s - τ * us i)) (nI c) (nI i) (nI τ) hx = _
      have e88 : F_Few_share_88 N (L_Few_share N n) (nI many) (nI (s - τ * us i)) (nI c) (nI i) (nI τ) hx = (L_Few_share N n).1 (nI many) (nI (s - τ * us i)) (nI (c - τ)) (nI (i + 1)) (sI hx 52 i (nI τ)) := by
        unfold F_Few_share_88
        rw [if_pos b8, iN_nI (by omega), sub, show nI i + 1 = nI (i + 1) from nN_add i 1]
      unfold F_Few_share_36
      rw [e88, iN_nI (show i < 2147483648 by omega), e51, iN_nI (show s - τ * us i < 2147483648 by omega), sub, nx1, show nI τ + 1 = nI (τ + 1) from nN_add τ 1]
      rw [if_neg (show ¬ nI c ≤ nI τ by rw [nN_le (by omega) (by omega)]; omega), if_pos b8, if_neg (show ¬ nI (s - τ * us i) < nI (us i) by rw [nN_lt (by omega) (by omega)]; omega), if_pos b9]
      by_cases g : gI hx 53 (s - τ * us i) = nI (c - τ)
      · rw [if_pos g, if_pos g]
      · rw [if_neg g, if_neg g, if_pos b8]
    have M : (L_M_few N (n' + 1)).2.2.2.2.2.2 (nI many) al (nI (s - τ * us i)) (nI (c - τ)) (nI i) (nI τ) hy = if gI hy 113 (2001 * (i + 1) + (s - τ * us i)) = nI (c - τ) then (L_M_few N n').2.2.2.2.2.1 (nI many) al (nI (s - τ * us i)) (nI (c - τ)) (nI (i + 1)) (sI hy 114 i (nI τ)) else (L_M_few N n').2.2.2.2.2.2 (nI many) al (nI (s - (τ + 1) * us i)) (nI (c - (τ + 1))) (nI i) (nI (τ + 1)) hy := by
      show F_M_few_402 N (L_M_few N n') (nI many) al (nI (s - τ * us i)) (nI (c - τ)) (nI i) (nI τ) hy = _
      unfold F_M_few_402
      rw [show nI i + 1 = nI (i + 1) from nN_add i 1, show (2001 : Int32) = nI 2001 from rfl, nN_mul, nN_add, if_pos (by rw [inB_nI (by omega)]; omega), iN_nI (by omega), iN_nI (show i < 2147483648 by omega), e115, nx1, nx2, if_pos b8, if_pos b8, show nI τ + 1 = nI (τ + 1) from nN_add τ 1]
    rw [S, M]
    rcases tr with ⟨k, q1, q2, q3, q4, q5⟩ | ⟨q1, q4, q5⟩
    · rw [q4, q5]
      have kk : (nI k = nI (c - τ)) = (k = c - τ) := nN_inj (by omega) (by omega)
      simp only [kk]
      by_cases g : k = c - τ
      · rw [if_pos g, if_pos g]
        rw [g] at q2 q3
        exact cont n n' τ (by omega) (by omega) (by omega) (by omega) q2 q3
      · rw [if_neg g, if_neg g]
        exact ih (τ + 1) n n' (by omega) (by omega) (by omega)
    · rw [q4, q5]
      rw [if_neg (show ¬ (1000000 : Int32) = nI (c - τ) by rw [show (1000000 : Int32) = nI 1000000 from rfl, nN_inj (by omega) (by omega)]; omega), if_neg (show ¬ (100000000 : Int32) = nI (c - τ) by rw [show (100000000 : Int32) = nI 100000000 from rfl, nN_inj (by omega) (by omega)]; omega)]
      exact ih (τ + 1) n n' (by omega) (by omega) (by omega)
theorem lShare {N : Nat} (hN : 30000 < N) {us : Nat → Nat} {many : Nat} (hmany : many ≤ 8) (hu : ∀ i, i < many → 1 ≤ us i ∧ us i ≤ 99) {h0 k0 : MH} (hx51 : ∀ i, i < many → gI h0 51 i = nI (us i)) (hy115 : ∀ i, i < many → gI k0 115 i = nI (us i)) (cm : ∀ j, j ≤ many → CM k0 us many j) (al : Int32) : ∀ (d i s c n n' : Nat) (hx hy : MH), i + d = many → s ≤ 2000 → Rep (fl us i d) s c → (∀ j, Rep (fl us i d) s j → c ≤ j) → 2010 * d < n → 2010 * d < n' → Fr wFS h0 hx → (∀ q, q < many → gI hx 51 q = nI (us q)) → Fr (fun c k => c == 114) k0 hy → (∀ q, q < i → gI hx 52 q = gI hy 114 q) →
    ∃ kx ky, (L_Few_share N n).1 (nI many) (nI s) (nI c) (nI i) hx = some kx ∧ (L_M_few N n').2.2.2.2.2.1 (nI many) al (nI s) (nI c) (nI i) hy = some (al, sI (sI ky 68 83 (nI many)) 68 0 0) ∧ Fr wFS h0 kx ∧ Fr (fun c k => c == 114) k0 ky ∧ ∀ q, q < many → gI kx 52 q = gI ky 114 q := by
  intro d
  induction d with
  | zero =>
    intro i s c n n' hx hy hd hs rp mn hn hn' fx f51 fy eq
    obtain ⟨n, rfl⟩ : ∃ q, n = q + 1 := ⟨n - 1, by omega⟩
    obtain ⟨n', rfl⟩ : ∃ q, n' = q + 1 := ⟨n' - 1, by omega⟩
    have : i = many := by omega
    subst this
    refine ⟨hx, hy, ?_, ?_, fx, fy, eq⟩
    · show F_Few_share_9 N (L_Few_share N n) (nI i) (nI s) (nI c) (nI i) hx = _
      unfold F_Few_share_9
      rw [if_pos (by rw [nN_le (by omega) (by omega)]; omega)]
    · show F_M_few_393 N (L_M_few N n') (nI i) al (nI s) (nI c) (nI i) hy = _
      unfold F_M_few_393 f_M_gives
      rw [if_pos (by rw [nN_le (by omega) (by omega)]; omega)]
      rfl
  | succ d ih =>
    intro i s c n n' hx hy hd hs rp mn hn hn' fx f51 fy eq
    obtain ⟨n, rfl⟩ : ∃ q, n = q + 1 := ⟨n - 1, by omega⟩
    obtain ⟨n', rfl⟩ : ∃ q, n' = q + 1 := ⟨n' - 1, by omega⟩
    have hi : i < many := by omega
    have u := hu i hi
    obtain ⟨x1, a1, a2, a3⟩ := eCF (N := N) hN (us := us) (many := many) (most := s) (from' := i + 1) hs hmany (h0 := hx) (fun q hq => ⟨f51 q hq, hu q hq⟩) (by omega)
    have dl : many - (i + 1) = d := by omega
    rw [dl] at a3
    obtain ⟨c0, k1, k2, k3⟩ := rp
    have pos : ∀ v ∈ fl us i (d + 1), 1 ≤ v := fl_pos hu (by omega)
    have hcs : c ≤ s := Rep_le (us := fl us i (d + 1)) pos ⟨c0, k1, k2, k3⟩
    have cmy : CM hy us many (i + 1) := CM_fr (cm (i + 1) (by omega)) _ fy (fun q => rfl)
    have fx1 : Fr wFS h0 x1 := fx.trans (a2.mono (fun c k q => by unfold wFS at q; unfold w53; simp at q ⊢; omega))
    have S : (L_Few_share N (n + 1)).1 (nI many) (nI s) (nI c) (nI i) hx = (L_Few_share N (n + 1)).2 (nI many) (nI (s - 0 * us i)) (nI c) (nI i) (nI 0) x1 := by
      show F_Few_share_9 N (L_Few_share N n) (nI many) (nI s) (nI c) (nI i) hx = _
      unfold F_Few_share_9
      rw [if_neg (by rw [nN_le (by omega) (by omega)]; omega), if_neg (by rw [L8, nN_le (by omega) (by omega)]; omega), show nI i + 1 = nI (i + 1) from nN_add i 1, a1, bnd_some, Nat.zero_mul, Nat.sub_zero]
      rfl
    have M : (L_M_few N (n' + 1)).2.2.2.2.2.1 (nI many) al (nI s) (nI c) (nI i) hy = (L_M_few N (n' + 1)).2.2.2.2.2.2 (nI many) al (nI (s - 0 * us i)) (nI (c - 0)) (nI i) (nI 0) hy := by
      show F_M_few_393 N (L_M_few N n') (nI many) al (nI s) (nI c) (nI i) hy = _
      unfold F_M_few_393
      rw [if_neg (by rw [nN_le (by omega) (by omega)]; omega), Nat.zero_mul, Nat.sub_zero, Nat.sub_zero]
      rfl
    rw [S, M]
    have c0s : c0 ≤ s := by
      have : c0 * 1 ≤ c0 * us i := Nat.mul_le_mul_left _ u.1
      omega
    have key := lShareIn (N := N) (us := us) hmany hu (i := i) (s := s) (c := c) (c0 := c0) hi hs k1 k2 (by rw [dl]; exact k3) (by rw [dl]; exact mn) hcs (hx := x1) (hy := hy) (by rw [dl]; exact a3) cmy (by rw [a2.i 51 i rfl]; exact f51 i hi) (by rw [fy.i 115 i rfl]; exact hy115 i hi) al (fun o p => ∃ kx ky, o = some kx ∧ p = some (al, sI (sI ky 68 83 (nI many)) 68 0 0) ∧ Fr wFS h0 kx ∧ Fr (fun c k => c == 114) k0 ky ∧ ∀ q, q < many → gI kx 52 q = gI ky 114 q) (2010 * d + 1) (fun n1 n1' τ hn1 hn1' t1 t2 t3 t4 => by
      rw [dl] at t3 t4
      refine ih (i + 1) (s - τ * us i) (c - τ) n1 n1' _ _ (by omega) (by omega) t3 t4 (by omega) (by omega) (fx1.sI 52 i _ rfl) (fun q hq => ?_) (fy.sI 114 i _ rfl) (fun q hq => ?_)
      · rw [gI_sI, if_neg (by omega), a2.i 51 q rfl]; exact f51 q hq
      · rw [gI_sI, gI_sI]
        by_cases z : q = i
        · rw [if_pos ⟨rfl, z⟩, if_pos ⟨rfl, z⟩]
        · rw [if_neg (by omega), if_neg (by omega), a2.i 52 q rfl]; exact eq q (by omega))
    have hn2 : 2010 * d + 1 + c0 < n + 1 := by
      rw [Nat.mul_succ] at hn
      exact Nat.lt_of_le_of_lt (show 2010 * d + 1 + c0 ≤ 2010 * d + 2010 by rw [Nat.add_assoc]; exact Nat.add_le_add_left (by omega) _) hn
    have hn2' : 2010 * d + 1 + c0 < n' + 1 := by
      rw [Nat.mul_succ] at hn'
      exact Nat.lt_of_le_of_lt (show 2010 * d + 1 + c0 ≤ 2010 * d + 2010 by rw [Nat.add_assoc]; exact Nat.add_le_add_left (by omega) _) hn'
    exact key c0 0 (n + 1) (n' + 1) (Nat.zero_add c0) hn2 hn2'
