/-! FEW: the call -/
theorem lFind {N : Nat} {us : Nat → Nat} {many : Nat} (hmany : many ≤ 8) (hu : ∀ i, i < many → 1 ≤ us i ∧ us i ≤ 99) {hx hy : MH} {least most : Nat} (hlm : least ≤ most) (hm : most ≤ 2000) (cf : CF hx (fl us 0 many) most) (cm : CM hy us many 0) (K : Nat) (res : Option (Int32 × MH) → Option (Int32 × MH) → Prop)
    (no : (∀ q, least ≤ q → q ≤ most → ∀ n, ¬ Rep (fl us 0 many) q n) → res (some (-1, hx)) (some (-1, sI hy 68 0 6)))
    (yes : ∀ n n' s c, K ≤ n → K ≤ n' → s ≤ most → Rep (fl us 0 many) s c → (∀ j, Rep (fl us 0 many) s j → c ≤ j) → c ≤ s → gI hx 53 s = nI c → gI hy 113 s = nI c → res (F_Few_find_92 N (L_Few_find N n) (nI many) (nI s) hx) ((L_M_few N (n' + 1)).2.2.2.2.2.1 (nI many) (nI c) (nI s) (nI c) (nI 0) hy)) :
    ∀ (d q n n' tot : Nat) (sm : Int32), q + d = most + 1 → least ≤ q → K + d < n → K + d < n' → ((sm = -1 ∧ tot = least ∧ ∀ z, least ≤ z → z < q → ∀ n, ¬ Rep (fl us 0 many) z n) ∨ (sm = nI tot ∧ tot ≤ most ∧ ∃ n, Rep (fl us 0 many) tot n)) →
    res ((L_Few_find N n).2 (nI many) (nI most) (nI tot) (nI q) hx) ((L_M_few N n').2.2.2.2.1 (nI many) (nI most) sm (nI q) hy) := by
  have pos := fl_pos (us := us) (many := many) (a := 0) (l := many) hu (by omega)
  have tr : ∀ t, t ≤ most → _ := fun t ht => TR pos (cf t ht) (by have := cm t (by omega); simpa using this)
  intro d
  induction d with
  | zero =>
    intro q n n' tot sm hd hq hn hn' rel
    obtain ⟨n, rfl⟩ : ∃ q, n = q + 1 := ⟨n - 1, by omega⟩
    obtain ⟨n', rfl⟩ : ∃ q, n' = q + 1 := ⟨n' - 1, by omega⟩
    show res (F_Few_find_50 N (L_Few_find N n) (nI many) (nI most) (nI tot) (nI q) hx) (F_M_few_307 N (L_M_few N n') (nI many) (nI most) sm (nI q) hy)
    unfold F_Few_find_50 F_M_few_307 f_M_refuse
    have lt : nI most < nI q := by rw [nN_lt (by omega) (by omega)]; omega
    rw [if_pos lt, if_pos lt]
    rcases rel with ⟨r1, r2, r3⟩ | ⟨r1, r2, ⟨c', r3⟩⟩
    · rw [if_pos r1, r2]
      have nr := r3 least (Nat.le_refl _) (by omega)
      unfold F_Few_find_92
      rcases tr least hlm with ⟨k, -, z, -⟩ | ⟨-, e1, -⟩
      · exact absurd z (nr k)
      · rw [if_pos (by rw [inB_nI (by omega)]; omega), iN_nI (by omega), e1]
        rw [if_neg (show ¬ ((1000000 : Int32) < 1000000) by decide)]
        exact no (fun z z1 z2 => r3 z z1 (by omega))
    · rcases tr tot r2 with ⟨k, z1, z2, z3, z4, z5⟩ | ⟨z1, -⟩
      · rw [if_neg (by rw [r1]; exact m1_ne (by omega)), r1, if_pos (by rw [inB_nI (by omega)]; omega), iN_nI (by omega), z5]
        exact yes n n' tot k (by omega) (by omega) r2 z2 z3 z1 z4 z5
      · exact absurd r3 (z1 _)
  | succ d ih =>
    intro q n n' tot sm hd hq hn hn' rel
    obtain ⟨n, rfl⟩ : ∃ q, n = q + 1 := ⟨n - 1, by omega⟩
    obtain ⟨n', rfl⟩ : ∃ q, n' = q + 1 := ⟨n' - 1, by omega⟩
    show res (F_Few_find_50 N (L_Few_find N n) (nI many) (nI most) (nI tot) (nI q) hx) (F_M_few_307 N (L_M_few N n') (nI many) (nI most) sm (nI q) hy)
    unfold F_Few_find_50 F_M_few_307 f_M_refuse
    have lt : ¬ nI most < nI q := by rw [nN_lt (by omega) (by omega)]; omega
    have tl : tot ≤ most := by rcases rel with ⟨-, r2, -⟩ | ⟨-, r2, -⟩ <;> omega
    have b1 : inB (nI q) 2001 = true := by rw [inB_nI (by omega)]; omega
    have b2 : inB (nI tot) 2001 = true := by rw [inB_nI (by omega)]; omega
    have b3 : inB (nI q) 18009 = true := by rw [inB_nI (by omega)]; omega
    have l2 : ¬ ((2000 : Int32) < nI q) := by rw [show (2000 : Int32) = nI 2000 from rfl, nN_lt (by omega) (by omega)]; omega
    rw [if_neg lt, if_neg lt, if_neg l2, if_pos b1, if_pos b2, if_pos b3, if_pos b3, iN_nI (show q < 2147483648 by omega), iN_nI (show tot < 2147483648 by omega), show nI q + 1 = nI (q + 1) from nN_add q 1]
    rcases tr q (by omega) with ⟨k, z1, z2, z3, z4, z5⟩ | ⟨z1, z4, z5⟩
    · rw [z4, z5, if_neg (show ¬ ((100000000 : Int32) ≤ nI k) by rw [show (100000000 : Int32) = nI 100000000 from rfl, nN_le (by omega) (by omega)]; omega)]
      rcases rel with ⟨r1, r2, r3⟩ | ⟨r1, r2, ⟨c', r3⟩⟩
      · rw [if_pos r1]
        have take : ¬ (gI hx 53 tot ≤ nI k) ∨ tot = q := by
          rcases Nat.lt_or_ge least q with g | g
          · left
            have nr := r3 least (Nat.le_refl _) g
            rcases tr least hlm with ⟨k', -, z, -⟩ | ⟨-, e1, -⟩
            · exact absurd z (nr k')
            · rw [r2, e1, show (1000000 : Int32) = nI 1000000 from rfl, nN_le (by omega) (by omega)]; omega
          · right; omega
        by_cases g : gI hx 53 tot ≤ nI k
        · rw [if_pos g]
          rcases take with z | z
          · exact absurd g z
          · rw [z]
            exact ih (q + 1) n n' q (nI q) (by omega) (by omega) (by omega) (by omega) (.inr ⟨rfl, by omega, k, z2⟩)
        · rw [if_neg g]
          exact ih (q + 1) n n' q (nI q) (by omega) (by omega) (by omega) (by omega) (.inr ⟨rfl, by omega, k, z2⟩)
      · rw [r1, if_neg (m1_ne (by omega)), if_pos (show inB (nI tot) 18009 = true by rw [inB_nI (by omega)]; omega), iN_nI (by omega)]
        rcases tr tot r2 with ⟨k', y1, y2, y3, y4, y5⟩ | ⟨y1, -⟩
        · rw [y4, y5]
          by_cases g : nI k' ≤ nI k
          · rw [if_pos g, if_pos g]
            exact ih (q + 1) n n' tot (nI tot) (by omega) (by omega) (by omega) (by omega) (.inr ⟨rfl, r2, c', r3⟩)
          · rw [if_neg g, if_neg g]
            exact ih (q + 1) n n' q (nI q) (by omega) (by omega) (by omega) (by omega) (.inr ⟨rfl, by omega, k, z2⟩)
        · exact absurd r3 (y1 _)
    · rw [z4, z5, if_pos (show (100000000 : Int32) ≤ 100000000 by decide)]
      have le : gI hx 53 tot ≤ 1000000 := by
        rcases tr tot tl with ⟨k', y1, y2, y3, y4, y5⟩ | ⟨y1, y4, -⟩
        · rw [y4, show (1000000 : Int32) = nI 1000000 from rfl, nN_le (by omega) (by omega)]; omega
        · rw [y4]; decide
      rw [if_pos le]
      refine ih (q + 1) n n' tot sm (by omega) (by omega) (by omega) (by omega) ?_
      rcases rel with ⟨r1, r2, r3⟩ | r
      · refine .inl ⟨r1, r2, fun z a1 a2 => ?_⟩
        by_cases g : z = q
        · rw [g]; exact z1
        · exact r3 z a1 (by omega)
      · exact .inr r
/-- the classes laid down, on the class's side -/
theorem lUnitsS {N : Nat} {hS hM : MH} {t z many : Nat} (hmany : many ≤ 8) (hz : z ≤ 60) (hmz : many ≤ z) (T : ∀ k, k < z → gJ hS (60 + 2 * t + 1) k = gJ hM 71 (60 * t + k)) (aw : awT hM t 1 99 many) (ht : t < 4) (least most : Int32) (K : Nat) (res : Option (Int32 × MH) → Prop)
    (cont : ∀ h n, K ≤ n → Fr (fun c k => c == 51) hS h → (∀ i, i < many → gI h 51 i = nI (usT hM t i)) → res (F_Few_find_36 N (L_Few_find N n) (nI many) least most h)) :
    ∀ (d i n : Nat) (h : MH), i + d = many → K + d < n → Fr (fun c k => c == 51) hS h → (∀ q, q < i → gI h 51 q = nI (usT hM t q)) → res ((L_Few_find N n).1 (60 + 2 * t) (nI many) least most (nI i) h) := by
  intro d
  induction d with
  | zero =>
    intro i n h hd hn fr u
    obtain ⟨n, rfl⟩ : ∃ q, n = q + 1 := ⟨n - 1, by omega⟩
    have : i = many := by omega
    subst this
    show res (F_Few_find_3 N (L_Few_find N n) (60 + 2 * t) (nI i) least most (nI i) h)
    unfold F_Few_find_3
    rw [if_pos (by rw [nN_le (by omega) (by omega)]; omega)]
    exact cont h n (by omega) fr u
  | succ d ih =>
    intro i n h hd hn fr u
    obtain ⟨n, rfl⟩ : ∃ q, n = q + 1 := ⟨n - 1, by omega⟩
    show res (F_Few_find_3 N (L_Few_find N n) (60 + 2 * t) (nI many) least most (nI i) h)
    unfold F_Few_find_3
    rw [if_neg (by rw [nN_le (by omega) (by omega)]; omega), if_neg (by rw [L8, nN_le (by omega) (by omega)]; omega), eTray_at (by omega), bnd_some]
    dsimp only
    rw [fr.j _ _ (by simp; omega), T i (by omega), if_pos (by rw [inB_nI (by omega)]; omega), iN_nI (by omega), (usT_ok aw (show i < many by omega)).2.2, show nI i + 1 = nI (i + 1) from nN_add i 1]
    refine ih (i + 1) n _ (by omega) (by omega) (fr.sI 51 i _ rfl) (fun q hq => ?_)
    rw [gI_sI]
    by_cases c : q = i
    · rw [if_pos ⟨rfl, c⟩, c]
    · rw [if_neg (by omega)]; exact u q (by omega)
theorem lUnitsM {N : Nat} {hM : MH} {t many : Nat} (hmany : many ≤ 8) (aw : awT hM t 1 99 many) (ht : t < 4) (least most : Int32) (K : Nat) (res : Option (Int32 × MH) → Prop)
    (cont : ∀ h n, K ≤ n → Fr (fun c k => c == 115) hM h → (∀ i, i < many → gI h 115 i = nI (usT hM t i)) → res ((L_M_few N (n + 1)).2.2.1 (nI many) least most (nI many) h)) :
    ∀ (d i n : Nat) (h : MH), i + d = many → K + d < n → Fr (fun c k => c == 115) hM h → (∀ q, q < i → gI h 115 q = nI (usT hM t q)) → res ((L_M_few N n).2.1 (nI t) (nI many) least most (nI i) h) := by
  intro d
  induction d with
  | zero =>
    intro i n h hd hn fr u
    obtain ⟨n, rfl⟩ : ∃ q, n = q + 1 := ⟨n - 1, by omega⟩
    have : i = many := by omega
    subst this
    show res (F_M_few_134 N (L_M_few N n) (nI t) (nI i) least most (nI i) h)
    unfold F_M_few_134
    rw [if_pos (by rw [nN_le (by omega) (by omega)]; omega)]
    exact cont h n (by omega) fr u
  | succ d ih =>
    intro i n h hd hn fr u
    obtain ⟨n, rfl⟩ : ∃ q, n = q + 1 := ⟨n - 1, by omega⟩
    show res (F_M_few_134 N (L_M_few N n) (nI t) (nI many) least most (nI i) h)
    unfold F_M_few_134
    rw [if_neg (by rw [nN_le (by omega) (by omega)]; omega), L60, nN_mul, nN_add, if_pos (by rw [inB_nI (by omega)]; omega), if_pos (by rw [inB_nI (by omega)]; omega), iN_nI (by omega), iN_nI (by omega), fr.j 71 _ rfl, (usT_ok aw (show i < many by omega)).2.2, show nI i + 1 = nI (i + 1) from nN_add i 1]
    refine ih (i + 1) n _ (by omega) (by omega) (fr.sI 115 i _ rfl) (fun q hq => ?_)
    rw [gI_sI]
    by_cases c : q = i
    · rw [if_pos ⟨rfl, c⟩, c]
    · rw [if_neg (by omega)]; exact u q (by omega)
theorem lM77 {N : Nat} {hM : MH} {t many : Nat} (ht : t < 4) (hmany : many ≤ 8) (least most : Int32) (K : Nat) (res : Option (Int32 × MH) → Prop) (no : ¬ awT hM t 1 99 many → res (some (-1, sI hM 68 0 1))) (yes : awT hM t 1 99 many → ∀ n, K ≤ n → res ((L_M_few N (n + 1)).2.1 (nI t) (nI many) least most (nI 0) hM)) :
    ∀ (d i n : Nat), i + d = many → K + d < n → awT hM t 1 99 i → res ((L_M_few N n).1 (nI t) (nI many) least most (nI i) hM) := by
  intro d
  induction d with
  | zero =>
    intro i n hd hn aw
    obtain ⟨n, rfl⟩ : ∃ q, n = q + 1 := ⟨n - 1, by omega⟩
    have : i = many := by omega
    subst this
    show res (F_M_few_77 N (L_M_few N n) (nI t) (nI i) least most (nI i) hM)
    unfold F_M_few_77
    rw [if_pos (by rw [nN_le (by omega) (by omega)]; omega)]
    exact yes aw n (by omega)
  | succ d ih =>
    intro i n hd hn aw
    obtain ⟨n, rfl⟩ : ∃ q, n = q + 1 := ⟨n - 1, by omega⟩
    show res (F_M_few_77 N (L_M_few N n) (nI t) (nI many) least most (nI i) hM)
    unfold F_M_few_77 f_M_refuse
    have ib : inB (nI (60 * t + i)) 240 = true := by rw [inB_nI (by omega)]; omega
    rw [if_neg (by rw [nN_le (by omega) (by omega)]; omega), show nI i + 1 = nI (i + 1) from nN_add i 1, L60, nN_mul, nN_add]
    simp only [ib, if_true, cmp_lt, cmp_le, bnd_some]
    rw [iN_nI (by omega)]
    by_cases c1 : gJ hM 71 (60 * t + i) < 1
    · rw [if_pos c1]
      exact no (fun q => absurd c1 (Int64.not_lt.mpr (q i (by omega)).1))
    · rw [if_neg c1]
      by_cases c2 : gJ hM 71 (60 * t + i) ≤ 99
      · rw [if_pos c2]
        refine ih (i + 1) n (by omega) (by omega) (fun k hk => ?_)
        by_cases q : k = i
        · rw [q]; exact ⟨Int64.not_lt.mp c1, c2⟩
        · exact aw k (by omega)
      · rw [if_neg c2]
        exact no (fun q => absurd (q i (by omega)).2 c2)
def wF1 (c k : Nat) : Bool := (51 ≤ c && c ≤ 53) || (c == 50 && k == 3)
def wF2 (c k : Nat) : Bool := (113 ≤ c && c ≤ 115) || (c == 68 && k == 83)
theorem Inv_few {hS hM hS' hM' : MH} (h : Inv2 hS hM) (fS : Fr wF1 hS hS') (fM : Fr wF2 hM hM') {f : Nat} (hF : IvF hS' hM' f) : Inv2 hS' hM' := by
  obtain ⟨hA, ⟨G, n, m, hE⟩, ⟨t0, t1, t2, t3⟩, ⟨p, hP⟩, -, hW⟩ := h
  have all : ∀ u, u < 4 → IvT hS hM u → IvT hS' hM' u := fun u hu hh => IvT_fr hh fS fM (fun c k q => by simp [kTS, wF1] at q ⊢; omega) (fun c k q => by simp [kTM, wF2] at q ⊢; omega)
  refine ⟨IvA_fr hA fS fM (fun c k q => by simp [kAS, wF1] at q ⊢; omega) (fun c k q => by simp [kAM, wF2] at q ⊢; omega), ⟨G, n, m, IvE_fr hE fS fM (fun c k q => ?_) (fun c k q => by simp [kEM, kLM, kRM, kKM, wF2] at q ⊢; omega)⟩, ⟨all 0 (by omega) t0, all 1 (by omega) t1, all 2 (by omega) t2, all 3 (by omega) t3⟩, ⟨p, IvP_fr hP fS fM (fun c k q => by simp [kPS, wF1] at q ⊢; omega) (fun c k q => by simp [kPM, wF2] at q ⊢; omega)⟩, ⟨f, hF⟩, IvW_fr hW fS (fun k => by simp [wF1]) (fun k _ => by simp [wF1])⟩
  rcases hE.1 with ⟨rfl, -⟩ | ⟨rfl, -⟩
  · simp [kES, kLS, kRS, kKS, wF1] at q ⊢; omega
  · simp [kES, kLS, kRS, kKS, wF1] at q ⊢; omega
theorem b169 {m n : Nat} (hm : m ≤ 8) (hn : 80000 ≤ n) : 50000 + 2010 * (m + 1) < n + 1 := by
  have a : 2010 * (m + 1) ≤ 2010 * 9 := Nat.mul_le_mul_left 2010 (Nat.succ_le_succ hm)
  have b : 50000 + 2010 * (m + 1) ≤ 68090 := Nat.add_le_add_left a 50000
  exact Nat.lt_of_le_of_lt b (Nat.lt_of_lt_of_le (by decide : 68090 < 80000) (Nat.le_trans hn (Nat.le_succ n)))
theorem op_few {N : Nat} (hN : 100000 < N) {hS hM : MH} (h : Inv2 hS hM) (a1 a2 a3 a4 : Int32) : OK2 hS hM (f_S_few N a1 a2 a3 a4 hS) (f_M_few N a1 a2 a3 a4 hM) := by
  show OK2 hS hM (f_S_few N a1 a2 a3 a4 hS) (F_M_few_0 N (L_M_few N N) a1 a2 a3 a4 hM)
  unfold f_S_few F_M_few_0 f_S_refuse f_M_refuse f_S_answer
  simp only [eS_isTray, eM_isTray, eS_isWithin, bnd_some, bz, iteW]
  by_cases g1 : 0 ≤ a1 ∧ a1 < 4
  case neg =>
    simp only [g1, not_false_eq_true, if_true]
    exact OK2_st h Fr.rfl Fr.rfl _ _
  by_cases g2 : 1 ≤ a2 ∧ a2 ≤ 8
  case neg =>
    simp only [g1, g2, and_self, not_true, not_false_eq_true, if_true, if_false]
    exact OK2_st h Fr.rfl Fr.rfl _ _
  simp only [g1, g2, and_self, not_true, not_false_eq_true, if_true, if_false]
  by_cases gg : (0 ≤ a3 ∧ a3 ≤ 2000) ∧ (0 ≤ a4 ∧ a4 ≤ 2000) ∧ a3 ≤ a4
  case neg =>
    have S : (if ¬(0 ≤ a3 ∧ a3 ≤ 2000) then some ((-1 : Int32), sI hS 1 12 1) else if ¬(0 ≤ a4 ∧ a4 ≤ 2000) then some (-1, sI hS 1 12 1) else some (-1, sI hS 1 12 1)) = some (-1, sI hS 1 12 1) := by
      split
      · rfl
      · split <;> rfl
    by_cases c1 : 0 ≤ a3 ∧ a3 ≤ 2000
    · by_cases c2 : 0 ≤ a4 ∧ a4 ≤ 2000
      · have c3 : ¬ a3 ≤ a4 := fun q => gg ⟨c1, c2, q⟩
        rw [if_neg (by simp [c1]), if_neg (by simp [c2]), if_neg c3, if_neg (show ¬ a3 < 0 by grind), if_neg (show ¬ 2000 < a4 by grind), if_neg c3]
        exact OK2_st h Fr.rfl Fr.rfl _ _
      · rw [if_neg (by simp [c1]), if_pos c2, if_neg (show ¬ a3 < 0 by grind)]
        by_cases c3 : 2000 < a4
        · rw [if_pos c3]
          exact OK2_st h Fr.rfl Fr.rfl _ _
        · rw [if_neg c3, if_neg (show ¬ a3 ≤ a4 by grind)]
          exact OK2_st h Fr.rfl Fr.rfl _ _
    · rw [if_pos c1]
      by_cases c3 : a3 < 0
      · rw [if_pos c3]
        exact OK2_st h Fr.rfl Fr.rfl _ _
      · rw [if_neg c3]
        by_cases c4 : 2000 < a4
        · rw [if_pos c4]
          exact OK2_st h Fr.rfl Fr.rfl _ _
        · rw [if_neg c4, if_neg (show ¬ a3 ≤ a4 by grind)]
          exact OK2_st h Fr.rfl Fr.rfl _ _
  obtain ⟨g3, g4, g5⟩ := gg
  rw [if_neg (by simp [g3]), if_neg (by simp [g4]), if_pos g5, if_neg (show ¬ a3 < 0 by grind), if_neg (show ¬ 2000 < a4 by grind), if_pos g5]
  obtain ⟨t, ht, rfl⟩ := rng (n := 4) (by omega) g1
  obtain ⟨many, hmany, rfl⟩ := rngle (n := 8) (a := a2) (by omega) ⟨by grind, g2.2⟩
  obtain ⟨least, hl, rfl⟩ := rngle (n := 2000) (by omega) g3
  obtain ⟨most, hmo, rfl⟩ := rngle (n := 2000) (by omega) g4
  rw [nN_le (by omega) (by omega)] at g5
  have ib : inB (nI t) 4 = true := by rw [inB_nI (by omega)]; omega
  simp only [ib, if_true]
  have Tt := Inv_T h ht
  rw [iN_nI (by omega), Tt.1, eTray_isMissing Tt, bnd_some]
  simp only [bz]
  obtain ⟨T1, -, T3, T4⟩ := Tt
  rcases T4 with q | ⟨z, z1, z2, z3⟩
  · simp only [q, not_true, if_true, if_false]
    exact OK2_st h Fr.rfl Fr.rfl _ _
  have nt : ¬ gI hM 70 t = -1 := by rw [z2]; exact m1_ne (by omega)
  simp only [nt, not_false_eq_true, if_true, if_false]
  rw [T3, z2]
  have ez : (nI many ≤ nI z) = (many ≤ z) := nN_le (by omega) (by omega)
  simp only [ez]
  by_cases g6 : many ≤ z
  case neg =>
    rw [if_neg g6, if_neg g6]
    exact OK2_st h Fr.rfl Fr.rfl _ _
  rw [if_pos g6, if_pos g6]
  obtain ⟨v, v1, v2⟩ := eAllWithin (N := N) (hS := hS) (hM := hM) (t := t) (z := z) (c := many) z1 g6 z3 1 99 many 0 (N + 1) (by omega) (by omega) (fun i hi => by omega)
  have v1' : f_Tray_allWithin N (60 + 2 * t) (nI many) 1 99 hS = some (v, hS) := v1
  rw [v1', bnd_some]
  dsimp only
  refine lM77 (N := N) ht hmany (nI least) (nI most) 90000 (fun o => OK2 hS hM _ o) (fun aw => ?_) (fun aw n1 hn1 => ?_) many 0 (N + 1) (by omega) (by omega) (fun i hi => by omega)
  · rcases v2 with ⟨-, q⟩ | ⟨q, -⟩
    · exact absurd q aw
    · rw [if_pos q]
      exact OK2_st h Fr.rfl Fr.rfl _ _
  · rcases v2 with ⟨q, -⟩ | ⟨-, q⟩
    case inr => exact absurd aw q
    rw [if_neg (by rw [q]; decide)]
    have hu : ∀ i, i < many → 1 ≤ usT hM t i ∧ usT hM t i ≤ 99 := fun i hi => ⟨(usT_ok aw hi).1, (usT_ok aw hi).2.1⟩
    -- the class's units and table
    have hS36 : ∃ hx n2, 90000 ≤ n2 ∧ f_Few_find N (60 + 2 * t) (nI many) (nI least) (nI most) hS = F_Few_find_36 N (L_Few_find N n2) (nI many) (nI least) (nI most) hx ∧ Fr (fun c k => c == 51) hS hx ∧ ∀ i, i < many → gI hx 51 i = nI (usT hM t i) :=
      lUnitsS (N := N) hmany z1 g6 z3 aw ht (nI least) (nI most) 90000 (fun o => ∃ hx n2, 90000 ≤ n2 ∧ o = F_Few_find_36 N (L_Few_find N n2) (nI many) (nI least) (nI most) hx ∧ Fr (fun c k => c == 51) hS hx ∧ ∀ i, i < many → gI hx 51 i = nI (usT hM t i)) (fun hx n2 hn2 fx ux => ⟨hx, n2, hn2, rfl, fx, ux⟩) many 0 (N + 1) hS (by omega) (by omega) Fr.rfl (fun q hq => by omega)
    obtain ⟨hx, n2, hn2, e2, fx, ux⟩ := hS36
    rw [e2]
    unfold F_Few_find_36
    obtain ⟨x1, c1, c2, c3⟩ := eCF (N := N) (by omega) (us := usT hM t) (many := many) (most := most) (from' := 0) hmo hmany (h0 := hx) (fun i hi => ⟨ux i hi, hu i hi⟩) (by omega)
    have c1' : f_Few_countFewest N 0 (nI many) (nI most) hx = some x1 := c1
    rw [c1', bnd_some]
    rw [show many - 0 = many from rfl] at c3
    refine lUnitsM (N := N) hmany aw ht (nI least) (nI most) 80000 (fun o => OK2 hS hM _ o) (fun hy n3 hn3 fy uy => ?_) many 0 (n1 + 1) hM (by omega) (by omega) Fr.rfl (fun q hq => by omega)
    have em : nI many = nI (many + 1) + -1 := nN_pred.symm
    have e169 : (L_M_few N (n3 + 1)).2.2.1 (nI many) (nI least) (nI most) (nI many) hy = (L_M_few N (n3 + 1)).2.2.1 (nI many) (nI least) (nI most) (nI (many + 1) + -1) hy := by rw [← em]
    rw [e169]
    have l169 := lM169 (N := N) (us := usT hM t) hmany (h0 := hy) (fun i hi => ⟨uy i hi, hu i hi⟩) (nI least) (nI most) 50000
    refine l169 _ (fun hz n4 hn4 fz cz => ?_) (many + 1) (n3 + 1) hy (Nat.le_refl _) (b169 hmany hn3) Fr.rfl (fun j j1 j2 => absurd j1 (by omega))
    have fxS : Fr wFS hS x1 := (fx.mono (fun c k q => by simp [wFS] at q; simp; omega)).trans (c2.mono (fun c k q => by simp [wFS] at q; simp [w53]; omega))
    have fyM : Fr wFM hM hz := (fy.mono (fun c k q => by simp [wFM] at q; simp; omega)).trans (fz.mono (fun c k q => by simp [wFM] at q; simp [w113]; omega))
    have fSv : Fr vS hS x1 := (fx.mono (fun c k q => by simp [vS] at q; simp; omega)).trans (c2.mono (fun c k q => by simp [vS] at q; simp [w53]; omega))
    have fMv : Fr vM hM hz := (fy.mono (fun c k q => by simp [vM] at q; simp; omega)).trans (fz.mono (fun c k q => by simp [vM] at q; simp [w113]; omega))
    have fin := lFind (N := N) (us := usT hM t) hmany hu (hx := x1) (hy := hz) g5 hmo c3 (cz 0 (by omega)) 40000 (fun s o => OK2 hS hM (s.bind (fun x12 => if 0 ≤ x12.1 then (some (x12.1, sI x12.2 1 12 0)) else (some ((-1 : Int32), sI x12.2 1 12 6)))) o) (fun _ => by
      rw [bnd_some, if_neg (by show ¬ ((0 : Int32) ≤ -1); decide)]
      exact OK2_st h fSv fMv _ _) (fun n5 n5' s c hn5 hn5' hs rp mn hcs e53 e113 => by
      unfold F_Few_find_92
      rw [if_pos (by rw [inB_nI (by omega)]; omega), iN_nI (by omega), e53, if_pos (show nI c < 1000000 by rw [show (1000000 : Int32) = nI 1000000 from rfl, nN_lt (by omega) (by omega)]; omega)]
      obtain ⟨kx, ky, s1, s2, s3, s4, s5⟩ := lShare (N := N) (by omega) (us := usT hM t) hmany hu (h0 := x1) (k0 := hz) (fun i hi => by rw [c2.i 51 i rfl]; exact ux i hi) (fun i hi => by rw [fz.i 115 i rfl]; exact uy i hi) cz (nI c) many 0 s c (N + 1) (n5' + 1) x1 hz (by omega) (by omega) rp mn (by omega) (by omega) Fr.rfl (fun i hi => by rw [c2.i 51 i rfl]; exact ux i hi) Fr.rfl (fun q hq => by omega)
      have s1' : f_Few_share N (nI many) (nI s) (nI c) x1 = some kx := s1
      rw [s1', bnd_some, bnd_some, s2]
      dsimp only
      rw [if_pos (show (0 : Int32) ≤ nI c by rw [L0, nN_le (by omega) (by omega)]; omega)]
      have gS : Fr wF1 hS (sI kx 50 3 (nI many)) := ((fxS.trans s3).mono (fun c k q => by simp [wF1] at q; simp [wFS]; omega)).sI 50 3 _ rfl
      have gM : Fr wF2 hM (sI ky 68 83 (nI many)) := ((fyM.mono (W' := wF2) (fun c k q => by simp [wF2] at q; simp [wFM]; omega)).trans (s4.mono (fun c k q => by simp [wF2] at q; simp; omega))).sI 68 83 _ rfl
      refine ⟨nI c, _, _, rfl, rfl, Inv_st (Inv_few h gS gM (f := many) ⟨hmany, rfl, rfl, fun k hk => ?_⟩) 0, (gS.mono (fun c k q => by simp [wS] at q; simp [wF1]; omega)).sI 1 12 0 rfl, (gM.mono (fun c k q => by simp [wM] at q; simp [wF2]; omega)).sI 68 0 0 rfl⟩
      rw [gI_sI, gI_sI, if_neg (by omega), if_neg (by omega)]
      exact s5 k hk) (most + 1 - least) least (n2 + 1) (n4 + 1) least (-1) (by omega) (Nat.le_refl _) (by omega) (by omega) (.inl ⟨rfl, rfl, fun z a b => by omega⟩)
    exact fin
