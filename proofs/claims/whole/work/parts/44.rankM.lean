/-! RANK on the reference's side -/
def wR (c _k : Nat) : Bool := c == 109
def MRk (v : Int32) (h0 : MH) (x : Option (Int32 × MH)) : Prop := ∃ h', x = some (v, h') ∧ Fr wR h0 h'
def sgM (hM : MH) (lo s : Nat) (m : Nat) : RV := if s.testBit m = true then rowV hM lo m else fun _ => 0
/-- one row eliminated, then on -/
theorem lM274 {N : Nat} {v : Int32} {h0 : MH} {r m c : Nat} (hr : r < 8) (hm : m < 8) (hrm : r ≠ m) {bf ld by' : Int64} (hb : ¬ bf = 0) (K : Nat) (h1 : MH) 
    (cont : ∀ h n, K ≤ n → Fr wR h0 h → (∀ a j, j < 6 → gJ h 109 (6 * a + j) = if a = m then (ld * gJ h1 109 (6 * m + j) - by' * gJ h1 109 (6 * r + j)) / bf else gJ h1 109 (6 * a + j)) → MRk v h0 ((L_M_rankOf N n).2.2.2.2.2.1 (nI r) bf (nI c) ld (nI (m + 1)) h)) :
    ∀ (d k n : Nat) (h : MH), k + d = 6 → K + d < n → Fr wR h0 h → (∀ a j, j < 6 → gJ h 109 (6 * a + j) = if a = m ∧ j < k then (ld * gJ h1 109 (6 * m + j) - by' * gJ h1 109 (6 * r + j)) / bf else gJ h1 109 (6 * a + j)) → MRk v h0 ((L_M_rankOf N n).2.2.2.2.2.2 (nI r) bf (nI c) ld (nI m) by' (nI k) h) := by
  intro d
  induction d with
  | zero =>
    intro k n h hd hn fr t
    obtain ⟨n, rfl⟩ : ∃ q, n = q + 1 := ⟨n - 1, by omega⟩
    show MRk v h0 (F_M_rankOf_274 N (L_M_rankOf N n) (nI r) bf (nI c) ld (nI m) by' (nI k) h)
    unfold F_M_rankOf_274
    rw [if_pos (by rw [L6, nN_le (by omega) (by omega)]; omega), show nI m + 1 = nI (m + 1) from nN_add m 1]
    refine cont h n (by omega) fr (fun a j hj => ?_)
    rw [t a j hj]
    by_cases q : a = m
    · rw [if_pos ⟨q, by omega⟩, if_pos q]
    · rw [if_neg (by omega), if_neg q]
  | succ d ih =>
    intro k n h hd hn fr t
    obtain ⟨n, rfl⟩ : ∃ q, n = q + 1 := ⟨n - 1, by omega⟩
    show MRk v h0 (F_M_rankOf_274 N (L_M_rankOf N n) (nI r) bf (nI c) ld (nI m) by' (nI k) h)
    unfold F_M_rankOf_274
    have i1 : 6 * m + k < 48 := by omega
    have i2 : 6 * r + k < 48 := by omega
    simp (disch := omega) only [L6, L1, nN_le, nN_mul, nN_add, inB_nI, iN_nI, hb, if_false, i1, i2, if_true]
    rw [if_neg (by omega)]
    refine ih (k + 1) n _ (by omega) (by omega) (fr.sJ 109 _ _ rfl) (fun a j hj => ?_)
    rw [gJ_sJ]
    by_cases q : a = m ∧ j = k
    · rw [if_pos (by omega), if_pos (by omega), t m k (by omega), if_neg (by omega), t r k (by omega), if_neg (by omega), q.2]
    · rw [if_neg (by omega), t a j hj]
      by_cases q2 : a = m ∧ j < k
      · rw [if_pos q2, if_pos (by omega)]
      · rw [if_neg q2, if_neg (by omega)]
theorem lM249 {N : Nat} {v : Int32} {A : List RV} (h9 : ∀ w ∈ A, ∀ j, j < 6 → (w j).natAbs ≤ 9) {r c : Nat} (hc : c < 6) {C : List Nat} {b : List RV} {sg : Nat → RV} {bf ld : Int64} (hbf : bf.toInt = det C b) (hBI : BI A 8 sg r c C b) (hr : r < 8) {p : Nat} (p1 : r ≤ p) (p2 : p < 8) (hp : TT C b (sg p) c ≠ 0) (hld : ld.toInt = TT C b (sg p) c) (h0 : MH) (K : Nat)
    (cont : ∀ h n, Fr wR h0 h → K ≤ n → TI 109 h 8 (r + 1) 0 (c :: C) (sg p :: b) (swp sg r p) → MRk v h0 ((L_M_rankOf N n).2.2.1 (nI (r + 1)) ld (nI (c + 1)) h)) :
    ∀ (d m n : Nat) (h : MH), m + d = 8 → r < m → K + 8 * d < n → Fr wR h0 h → (∀ j, j < 6 → (gJ h 109 (6 * r + j)).toInt = TT C b (sg p) j) → (∀ a j, m ≤ a → a < 8 → j < 6 → (gJ h 109 (6 * a + j)).toInt = TT C b (swp sg r p a) j) → (∀ a j, r < a → a < m → j < 6 → (gJ h 109 (6 * a + j)).toInt = TT (c :: C) (sg p :: b) (swp sg r p a) j) →
    MRk v h0 ((L_M_rankOf N n).2.2.2.2.2.1 (nI r) bf (nI c) ld (nI m) h) := by
  have bd0 : bf.toInt ≠ 0 := by rw [hbf]; exact hBI.2.2.1
  have hY := BI_yes hBI p1 p2 hp
  have memA : ∀ a, r < a → a < 8 → swp sg r p a ∈ A := fun a h1 h2 => hY.2.2.2.2.2.2.1 a (by omega) h2
  have memP : sg p ∈ A := hBI.2.2.2.2.2.2.1 p p1 p2
  intro d
  induction d with
  | zero =>
    intro m n h hd hm hn fr t1 t2 t3
    obtain ⟨n, rfl⟩ : ∃ q, n = q + 1 := ⟨n - 1, by omega⟩
    show MRk v h0 (F_M_rankOf_249 N (L_M_rankOf N n) (nI r) bf (nI c) ld (nI m) h)
    unfold F_M_rankOf_249
    rw [if_pos (by rw [L8, nN_le (by omega) (by omega)]; omega), show nI r + 1 = nI (r + 1) from nN_add r 1, show nI c + 1 = nI (c + 1) from nN_add c 1]
    exact cont h n fr (by omega) (fun a j q1 q2 q3 q4 => t3 a j (by omega) (by omega) q4)
  | succ d ih =>
    intro m n h hd hm hn fr t1 t2 t3
    obtain ⟨n, rfl⟩ : ∃ q, n = q + 1 := ⟨n - 1, by omega⟩
    show MRk v h0 (F_M_rankOf_249 N (L_M_rankOf N n) (nI r) bf (nI c) ld (nI m) h)
    unfold F_M_rankOf_249
    have i1 : 6 * m + c < 48 := by omega
    have e8 : ¬ (8 ≤ nI m) := by rw [L8, nN_le (by omega) (by omega)]; omega
    simp (disch := omega) only [e8, if_false, L6, nN_mul, nN_add, inB_nI, iN_nI, i1, if_true]
    refine lM274 (N := N) hr (by omega) (by omega) (j_ne bd0) (K + 8 * d + 1) h (fun h' n' hn' f' t' => ?_) 6 0 (n + 1) h (by omega) (by omega) fr (fun a j hj => by rw [if_neg (by omega)])
    refine ih (m + 1) n' h' (by omega) (by omega) (by omega) f' (fun j hj => ?_) (fun a j q1 q2 q4 => ?_) (fun a j q1 q2 q4 => ?_)
    · rw [t' r j hj, if_neg (by omega)]; exact t1 j hj
    · rw [t' a j q4, if_neg (by omega)]; exact t2 a j (by omega) q2 q4
    · rw [t' a j q4]
      by_cases q : a = m
      · subst q
        rw [if_pos rfl]
        have u1 := t2 a j (by omega) (by omega) q4
        have u3 := t1 j q4
        have u4 := t2 a c (by omega) (by omega) hc
        refine ex64 ?_ ?_ ?_ ?_ bd0 ?_
        · rw [hld]; exact BI_bd hBI h9 hc memP hc
        · rw [u1]; exact BI_bd hBI h9 hc (memA a q1 (by omega)) q4
        · rw [u4]; exact BI_bd hBI h9 hc (memA a q1 (by omega)) hc
        · rw [u3]; exact BI_bd hBI h9 hc memP q4
        · rw [u1, hld, u3, u4, hbf, TT_step C b (sg p) (swp sg r p a) c j hBI.1 hBI.2.2.1 hBI.2.2.2.1]
      · rw [if_neg q]
        exact t3 a j q1 (by omega) q4
theorem lM163 {N : Nat} {v : Int32} {h0 : MH} {r p c : Nat} (hr : r < 8) (hp : p < 8) (hc : c < 6) {bf : Int64} (K : Nat) (h1 : MH)
    (cont : ∀ h n, K ≤ n → Fr wR h0 h → (∀ a j, j < 6 → gJ h 109 (6 * a + j) = gJ h1 109 (6 * swN r p a + j)) → MRk v h0 ((L_M_rankOf N (n + 1)).2.2.2.2.2.1 (nI r) bf (nI c) (gJ h 109 (6 * r + c)) (nI (r + 1)) h)) :
    ∀ (d k n : Nat) (h : MH), k + d = 6 → K + d < n → Fr wR h0 h → (∀ a j, j < 6 → gJ h 109 (6 * a + j) = if j < k then gJ h1 109 (6 * swN r p a + j) else gJ h1 109 (6 * a + j)) → MRk v h0 ((L_M_rankOf N n).2.2.2.2.1 (nI r) bf (nI c) (nI p) (nI k) h) := by
  intro d
  induction d with
  | zero =>
    intro k n h hd hn fr t
    obtain ⟨n, rfl⟩ : ∃ q, n = q + 1 := ⟨n - 1, by omega⟩
    show MRk v h0 (F_M_rankOf_163 N (L_M_rankOf N n) (nI r) bf (nI c) (nI p) (nI k) h)
    unfold F_M_rankOf_163
    have i1 : 6 * r + c < 48 := by omega
    simp (disch := omega) only [L6, nN_le, nN_mul, nN_add, inB_nI, iN_nI, i1, if_true]
    rw [if_pos (by omega), show nI r + 1 = nI (r + 1) from nN_add r 1]
    exact cont h n (by omega) fr (fun a j hj => by rw [t a j hj, if_pos (by omega)])
  | succ d ih =>
    intro k n h hd hn fr t
    obtain ⟨n, rfl⟩ : ∃ q, n = q + 1 := ⟨n - 1, by omega⟩
    show MRk v h0 (F_M_rankOf_163 N (L_M_rankOf N n) (nI r) bf (nI c) (nI p) (nI k) h)
    unfold F_M_rankOf_163
    have i1 : 6 * r + k < 48 := by omega
    have i2 : 6 * p + k < 48 := by omega
    simp (disch := omega) only [L6, L1, nN_le, nN_mul, nN_add, inB_nI, iN_nI, i1, i2, if_true]
    rw [if_neg (by omega)]
    refine ih (k + 1) n _ (by omega) (by omega) ((fr.sJ 109 _ _ rfl).sJ 109 _ _ rfl) (fun a j hj => ?_)
    rw [gJ_sJ, gJ_sJ]
    by_cases c1 : j = k
    · subst c1
      rw [if_pos (show j < j + 1 by omega)]
      unfold swN
      by_cases c2 : a = r
      · rw [if_pos (by omega), if_pos c2, t p j hj, if_neg (by omega)]
      · rw [if_neg (by omega), if_neg c2]
        by_cases c3 : a = p
        · rw [if_pos (by omega), if_pos c3, t r j hj, if_neg (by omega)]
        · rw [if_neg (by omega), if_neg c3, t a j hj, if_neg (by omega)]
    · rw [if_neg (by omega), if_neg (by omega), t a j hj]
      by_cases c2 : j < k
      · rw [if_pos c2, if_pos (by omega)]
      · rw [if_neg c2, if_neg (by omega)]
theorem lM117 {N : Nat} {v : Int32} {h0 h : MH} {r c : Nat} (hr : r ≤ 8) (hc : c < 6) {bf : Int64} (K : Nat)
    (no : ∀ n, K ≤ n → (∀ a, r ≤ a → a < 8 → gJ h 109 (6 * a + c) = 0) → MRk v h0 ((L_M_rankOf N n).2.2.1 (nI r) bf (nI (c + 1)) h))
    (yes : ∀ n p, K ≤ n → r ≤ p → p < 8 → gJ h 109 (6 * p + c) ≠ 0 → MRk v h0 ((L_M_rankOf N (n + 1)).2.2.2.2.1 (nI r) bf (nI c) (nI p) (nI 0) h)) :
    ∀ (d q n : Nat) (pI : Int32), r + d = q → q ≤ 8 → K + d < n → ((pI = -1 ∧ ∀ a, q ≤ a → a < 8 → gJ h 109 (6 * a + c) = 0) ∨ ∃ p, q ≤ p ∧ p < 8 ∧ pI = nI p ∧ gJ h 109 (6 * p + c) ≠ 0) → MRk v h0 ((L_M_rankOf N n).2.2.2.1 (nI r) bf (nI c) pI (nI q + -1) h) := by
  intro d
  induction d with
  | zero =>
    intro q n pI hd hq hn hpI
    obtain ⟨n, rfl⟩ : ∃ q, n = q + 1 := ⟨n - 1, by omega⟩
    show MRk v h0 (F_M_rankOf_117 N (L_M_rankOf N n) (nI r) bf (nI c) pI (nI q + -1) h)
    unfold F_M_rankOf_117
    rw [if_pos (by rw [e_ltm1 (by omega) (by omega)]; omega), show nI c + 1 = nI (c + 1) from nN_add c 1]
    rcases hpI with ⟨p1, p2⟩ | ⟨p, p1, p2, p3, p4⟩
    · rw [if_pos p1]
      exact no n (by omega) (fun a a1 a2 => p2 a (by omega) a2)
    · rw [if_neg (by rw [p3]; exact m1_ne (by omega)), p3]
      exact yes n p (by omega) (by omega) p2 p4
  | succ d ih =>
    intro q n pI hd hq hn hpI
    obtain ⟨n, rfl⟩ : ∃ q, n = q + 1 := ⟨n - 1, by omega⟩
    obtain ⟨q, rfl⟩ : ∃ z, q = z + 1 := ⟨q - 1, by omega⟩
    show MRk v h0 (F_M_rankOf_117 N (L_M_rankOf N n) (nI r) bf (nI c) pI (nI (q + 1) + -1) h)
    unfold F_M_rankOf_117
    rw [if_neg (by rw [e_ltm1 (by omega) (by omega)]; omega), nN_pred]
    have i1 : 6 * q + c < 48 := by omega
    simp (disch := omega) only [L6, nN_mul, nN_add, inB_nI, iN_nI, i1, if_true, cmp0]
    by_cases g : gJ h 109 (6 * q + c) = 0
    · rw [if_pos g]
      refine ih q n pI (by omega) (by omega) (by omega) ?_
      rcases hpI with ⟨p1, p2⟩ | ⟨p, p1, p2, p3, p4⟩
      · refine .inl ⟨p1, fun a a1 a2 => ?_⟩
        by_cases z : a = q
        · rw [z]; exact g
        · exact p2 a (by omega) a2
      · exact .inr ⟨p, by omega, p2, p3, p4⟩
    · rw [if_neg g]
      exact ih q n (nI q) (by omega) (by omega) (by omega) (.inr ⟨q, Nat.le_refl _, by omega, rfl, g⟩)
theorem lM103 {N : Nat} {A : List RV} (h9 : ∀ w ∈ A, ∀ j, j < 6 → (w j).natAbs ≤ 9) (h0 : MH) : ∀ (d c n r : Nat) (sg : Nat → RV) (C : List Nat) (b : List RV) (bf : Int64) (h : MH), c + d = 6 → 200 * d < n → BI A 8 sg r c C b → bf.toInt = det C b → TI 109 h 8 r 0 C b sg → Fr wR h0 h → MRk (nI (pcn A 6)) h0 ((L_M_rankOf N n).2.2.1 (nI r) bf (nI c) h) := by
  intro d
  induction d with
  | zero =>
    intro c n r sg C b bf h hd hn hB hbf ti fr
    obtain ⟨n, rfl⟩ : ∃ q, n = q + 1 := ⟨n - 1, by omega⟩
    refine ⟨h, ?_, fr⟩
    show F_M_rankOf_103 N (L_M_rankOf N n) (nI r) bf (nI c) h = _
    unfold F_M_rankOf_103
    rw [if_pos (by rw [L6, nN_le (by omega) (by omega)]; omega)]
    have := hB.2.2.2.2.2.2.2.2.2
    rw [show c = 6 by omega] at this
    rw [this]
  | succ d ih =>
    intro c n r sg C b bf h hd hn hB hbf ti fr
    obtain ⟨n, rfl⟩ : ∃ q, n = q + 1 := ⟨n - 1, by omega⟩
    have hc : c < 6 := by omega
    have hr6 : r ≤ c := by rw [hB.2.2.2.2.2.2.2.2.2]; exact pcn_le A c
    show MRk _ h0 (F_M_rankOf_103 N (L_M_rankOf N n) (nI r) bf (nI c) h)
    unfold F_M_rankOf_103
    rw [if_neg (by rw [L6, nN_le (by omega) (by omega)]; omega)]
    have := lM117 (N := N) (v := nI (pcn A 6)) (h0 := h0) (h := h) (r := r) (c := c) (bf := bf) (by omega) hc (200 * d + 100) (fun n' hn' hz => ?_) (fun n' p hn' p1 p2 hnz => ?_) (8 - r) 8 (n + 1) (-1) (by omega) (by omega) (by omega) (.inl ⟨rfl, fun a a1 a2 => by omega⟩)
    · exact this
    · refine ih (c + 1) n' r sg C b bf h (by omega) (by omega) (BI_no hB (fun m m1 m2 => ?_)) hbf ti fr
      rw [← ti m c m1 m2 (by omega) hc, hz m m1 m2]; rfl
    · have hp : TT C b (sg p) c ≠ 0 := by
        rw [← ti p c p1 p2 (by omega) hc]
        intro z; exact hnz (j_eq z)
      refine lM163 (N := N) (by omega) p2 hc (200 * d + 80) h (fun h1 n1 hn1 f1 t1 => ?_) 6 0 (n' + 1) h (by omega) (by omega) fr (fun a j hj => by rw [if_neg (by omega)])
      have u1 : ∀ j, j < 6 → (gJ h1 109 (6 * r + j)).toInt = TT C b (sg p) j := fun j hj => by
        rw [t1 r j hj, show swN r p r = p by simp [swN]]; exact ti p j p1 p2 (by omega) hj
      refine lM249 (N := N) h9 hc hbf hB (by omega) p1 p2 hp (u1 c hc) h0 (200 * d + 1) (fun h2 n2 f2 hn2 t2 => ?_) (8 - (r + 1)) (r + 1) (n1 + 1) h1 (by omega) (by omega) (by omega) f1 u1 (fun a j a1 a2 hj => ?_) (fun a j a1 a2 => by omega)
      · exact ih (c + 1) n2 (r + 1) (swp sg r p) (c :: C) (sg p :: b) _ h2 (by omega) (by omega) (BI_yes hB p1 p2 hp) (u1 c hc) t2 f2
      · rw [t1 a j hj, swp_eq]
        refine ti (swN r p a) j ?_ ?_ (by omega) hj
        · unfold swN; split <;> (try split) <;> omega
        · unfold swN; split <;> (try split) <;> omega
/-- the table filled -/
def FM (hM h : MH) (lo s m : Nat) : Prop := ∀ i, i < m → ∀ j, j < 6 → (gJ h 109 (6 * i + j)).toInt = sgM hM lo s i j
theorem lM11 {N : Nat} {v : Int32} {hS hM : MH} {G n0 m0 : Nat} (hL : IvL hS hM G n0 m0) {s sm lo m : Nat} (hs : s < 256) (hsm : sm < 64) (hbit : ∀ j, j < 6 → (sm.testBit j = false ↔ j = lo)) (hm0 : ∀ k, m0 ≤ k → s.testBit k = false) (hm : m < 8) (h0 : MH) (f0 : Fr vM hM h0) (K : Nat)
    (cont : ∀ h n, K ≤ n → Fr wR h0 h → FM hM h lo s (m + 1) → MRk v h0 ((L_M_rankOf N n).1 (nI s) (nI sm) (nI (m + 1)) h)) :
    ∀ (d j n : Nat) (h : MH), j + d = 6 → K + d < n → Fr wR h0 h → FM hM h lo s m → (∀ i, i < j → (gJ h 109 (6 * m + i)).toInt = sgM hM lo s m i) → MRk v h0 ((L_M_rankOf N n).2.1 (nI s) (nI sm) (nI m) (nI j) h) := by
  obtain ⟨⟨l1, l2⟩, ⟨l3, l4⟩, ⟨l5, l6⟩, l7, l8, -⟩ := hL
  intro d
  induction d with
  | zero =>
    intro j n h hd hn fr fm t
    obtain ⟨n, rfl⟩ : ∃ q, n = q + 1 := ⟨n - 1, by omega⟩
    show MRk v h0 (F_M_rankOf_11 N (L_M_rankOf N n) (nI s) (nI sm) (nI m) (nI j) h)
    unfold F_M_rankOf_11
    rw [if_pos (by rw [L6, nN_le (by omega) (by omega)]; omega), show nI m + 1 = nI (m + 1) from nN_add m 1]
    refine cont h n (by omega) fr (fun i hi q hq => ?_)
    by_cases z : i = m
    · rw [z]; exact t q (by omega)
    · exact fm i (by omega) q hq
  | succ d ih =>
    intro j n h hd hn fr fm t
    obtain ⟨n, rfl⟩ : ∃ q, n = q + 1 := ⟨n - 1, by omega⟩
    have j6 : j < 6 := by omega
    have step : ∀ x : Int64, x.toInt = sgM hM lo s m j → MRk v h0 ((L_M_rankOf N n).2.1 (nI s) (nI sm) (nI m) (nI (j + 1)) (sJ h 109 (6 * m + j) x)) := by
      intro x hx
      refine ih (j + 1) n _ (by omega) (by omega) (fr.sJ 109 _ _ rfl) (fun i hi q hq => ?_) (fun i hi => ?_)
      · rw [gJ_sJ, if_neg (by omega)]; exact fm i hi q hq
      · rw [gJ_sJ]
        by_cases c : i = j
        · rw [if_pos (by omega), c]; exact hx
        · rw [if_neg (by omega)]; exact t i (by omega)
    show MRk v h0 (F_M_rankOf_11 N (L_M_rankOf N n) (nI s) (nI sm) (nI m) (nI j) h)
    unfold F_M_rankOf_11
    have i1 : 6 * m + j < 48 := by omega
    have i2 : 8 * j + m < 48 := by omega
    have f := f0.trans (fr.mono (W' := vM) (fun c k q => by unfold vM at q; unfold wR; simp at q ⊢; omega))
    have g33 : gI h 68 33 = nI m0 := by rw [f.i 68 33 rfl, l6]
    have g32 : gI h 68 32 = nI n0 := by rw [f.i 68 32 rfl, l4]
    have e6 : ¬ (6 ≤ nI j) := by rw [L6, nN_le (by omega) (by omega)]; omega
    have ix : (6 * nI m + nI j) = nI (6 * m + j) := by rw [L6, nN_mul, nN_add]
    have iy : (8 * nI j + nI m) = nI (8 * j + m) := by rw [L8, nN_mul, nN_add]
    have b1 : inB (nI (6 * m + j)) 48 = true := by rw [inB_nI (by omega)]; omega
    have b2 : inB (nI (8 * j + m)) 48 = true := by rw [inB_nI (by omega)]; omega
    rw [if_neg e6, ix, iy, g33, g32, iN_nI (by omega), iN_nI (by omega)]
    simp only [b1, b2, if_true, bit1 hs hm, bit1 (show sm < 256 by omega) (show j < 8 by omega), show nI j + 1 = nI (j + 1) from nN_add j 1]
    by_cases c1 : m0 ≤ m
    · rw [if_pos (by rw [nN_le (by omega) (by omega)]; exact c1)]
      exact step 0 (by rw [J0i]; unfold sgM; rw [if_neg (by rw [hm0 m c1]; decide)])
    · rw [if_neg (by rw [nN_le (by omega) (by omega)]; exact c1)]
      have gu : gI h 88 (8 * j + m) = gI hM 88 (8 * j + m) := f.i 88 _ rfl
      by_cases c2 : n0 ≤ j
      · rw [if_pos (by rw [nN_le (by omega) (by omega)]; exact c2)]
        refine step 0 ?_
        rw [J0i]; unfold sgM
        split
        · show 0 = rowV hM lo m j
          unfold rowV
          rw [l8 j m c2 j6 hm]
          split <;> rfl
        · rfl
      · rw [if_neg (by rw [nN_le (by omega) (by omega)]; exact c2)]
        by_cases c3 : s.testBit m = true
        · rw [if_pos c3]
          by_cases c4 : sm.testBit j = true
          · rw [if_pos c4]
            refine step _ ?_
            rw [Int32.toInt_toInt64, gu]
            unfold sgM rowV
            rw [if_pos c3, if_neg]
            rintro (z | z)
            · rw [← hbit j j6] at z; rw [z] at c4; cases c4
            · omega
          · rw [if_neg c4]
            refine step 0 ?_
            rw [J0i]; unfold sgM rowV
            have : sm.testBit j = false := by cases z : sm.testBit j; rfl; exact absurd z c4
            rw [if_pos c3, if_pos (.inl ((hbit j j6).mp this))]
        · rw [if_neg c3]
          exact step 0 (by rw [J0i]; unfold sgM; rw [if_neg c3])
theorem lM2 {N : Nat} {hS hM : MH} {G n0 m0 : Nat} (hL : IvL hS hM G n0 m0) {s sm lo : Nat} (hs : s < 256) (hsm : sm < 64) (hbit : ∀ j, j < 6 → (sm.testBit j = false ↔ j = lo)) (hm0 : ∀ k, m0 ≤ k → s.testBit k = false) (h0 : MH) (f0 : Fr vM hM h0) : ∀ (d m n : Nat) (h : MH), m + d = 8 → 1300 + 10 * d < n → Fr wR h0 h → FM hM h lo s m → MRk (nI (pcn ((List.range 8).map (sgM hM lo s)) 6)) h0 ((L_M_rankOf N n).1 (nI s) (nI sm) (nI m) h) := by
  intro d
  induction d with
  | zero =>
    intro m n h hd hn fr fm
    obtain ⟨n, rfl⟩ : ∃ q, n = q + 1 := ⟨n - 1, by omega⟩
    have : m = 8 := by omega
    subst this
    show MRk _ h0 (F_M_rankOf_2 N (L_M_rankOf N n) (nI s) (nI sm) (nI 8) h)
    unfold F_M_rankOf_2
    rw [if_pos (by decide)]
    refine lM103 (N := N) (A := (List.range 8).map (sgM hM lo s)) (fun w hw j hj => ?_) h0 6 0 (n + 1) 0 (sgM hM lo s) [] [] 1 h (by omega) (by omega) (BI_start (fun m hm => List.mem_map.mpr ⟨m, List.mem_range.mpr hm, rfl⟩) (fun w hw => ?_)) rfl (fun m j m1 m2 m3 m4 => ?_) fr
    · obtain ⟨k, k1, rfl⟩ := List.mem_map.mp hw
      unfold sgM
      split
      · exact rowV_9 hL (List.mem_range.mp k1) j hj
      · show (0 : Int).natAbs ≤ 9; decide
    · obtain ⟨k, k1, rfl⟩ := List.mem_map.mp hw
      exact ⟨k, List.mem_range.mp k1, rfl⟩
    · rw [fm m m2 j m4]
      show _ = det [j] [_]
      simp [det, lapl]
  | succ d ih =>
    intro m n h hd hn fr fm
    obtain ⟨n, rfl⟩ : ∃ q, n = q + 1 := ⟨n - 1, by omega⟩
    show MRk _ h0 (F_M_rankOf_2 N (L_M_rankOf N n) (nI s) (nI sm) (nI m) h)
    unfold F_M_rankOf_2
    rw [if_neg (by rw [L8, nN_le (by omega) (by omega)]; omega)]
    exact lM11 (N := N) hL hs hsm hbit hm0 (by omega) h0 f0 (1300 + 10 * d + 1) (fun h' n' hn' f' fm' => ih (m + 1) n' h' (by omega) (by omega) f' fm') 6 0 (n + 1) h (by omega) (by omega) fr fm (fun i hi => by omega)
theorem eM_ranks {N : Nat} (hN : 2000 < N) {hS hM h : MH} {G n0 m0 : Nat} (hL : IvL hS hM G n0 m0) {s sm lo : Nat} (hs : s < 256) (hsm : sm < 64) (hbit : ∀ j, j < 6 → (sm.testBit j = false ↔ j = lo)) (hm0 : ∀ k, m0 ≤ k → s.testBit k = false) (f0 : Fr vM hM h) : ∃ h', f_M_rankOf N (nI s) (nI sm) h = some (nI (RK hM lo s), h') ∧ Fr wR h h' := by
  have key := lM2 (N := N) hL hs hsm hbit hm0 h f0 8 0 (N + 1) h (by omega) (by omega) Fr.rfl (fun i hi => by omega)
  have e : RK hM lo s = pcn ((List.range 8).map (sgM hM lo s)) 6 := by
    unfold RK
    refine pcn_congr (fun w hw => ?_) (fun w hw => ?_) 6
    · obtain ⟨k, k1, rfl⟩ := List.mem_map.mp hw
      obtain ⟨k2, k3⟩ := bits8_lt k1
      exact Spn_mem (List.mem_map.mpr ⟨k, List.mem_range.mpr k2, by unfold sgM; rw [if_pos k3]⟩)
    · obtain ⟨k, k1, rfl⟩ := List.mem_map.mp hw
      unfold sgM
      split
      · next q => exact Spn_mem (List.mem_map.mpr ⟨k, bits8_mem (List.mem_range.mp k1) q, rfl⟩)
      · exact Spn_zero _
  rw [e]
  exact key
theorem shl_d : ∀ m : Fin 9, (1 : Int32) <<< (nI m &&& 31) = nI (2 ^ m.val) := by decide +kernel
theorem shl_n {m : Nat} (hm : m ≤ 8) : (1 : Int32) <<< (nI m &&& 31) = nI (2 ^ m) := shl_d ⟨m, by omega⟩
theorem p256 {m : Nat} (hm : m ≤ 8) : 2 ^ m ≤ 256 := Nat.pow_le_pow_right (n := 2) (by omega) hm
theorem lo99 : ∀ j, j < 6 → (nI j = -1 ↔ j = 99) := fun j hj => ⟨fun q => absurd q (m1_ne (by omega)), fun q => by omega⟩
theorem sm63 : ∀ j, j < 6 → (Nat.testBit 63 j = false ↔ j = 99) := by
  intro j hj
  rcases j with _ | _ | _ | _ | _ | _ | j
  all_goals first | decide | omega
theorem smc_d : ∀ c : Fin 6, (63 &&& (((1 : Int32) <<< (nI c &&& 31)) ^^^ (-1))) = nI (63 - 2 ^ c.val) ∧ ∀ j : Fin 6, (Nat.testBit (63 - 2 ^ c.val) j = false ↔ j = c) := by decide +kernel
theorem wT_v {c k : Nat} (h : vS c k = false) : wT c k = false := by
  unfold vS at h; unfold wT; simp at h ⊢; omega
theorem wR_v {c k : Nat} (h : vM c k = false) : wR c k = false := by
  unfold vM at h; unfold wR; simp at h ⊢; omega
theorem eS_isSetOfMarks (N : Nat) (a : Int32) (h : MH) : f_S_isSetOfMarks N a h = some (if 0 ≤ a ∧ a < (1 : Int32) <<< (gI h (gR h 1 11) 1 &&& 31) then 1 else 0, h) := by
  unfold f_S_isSetOfMarks; rw [eS_isOneOf, bnd_some, nar_bz]
theorem eM_areMarks (N : Nat) (a : Int32) (h : MH) : f_M_areMarks N a h = some (if 0 ≤ a ∧ a < (1 : Int32) <<< (gI h 68 33 &&& 31) then 1 else 0, h) := by
  unfold f_M_areMarks; rw [iteR, some_ite]
theorem RK_le (hM : MH) (lo s : Nat) : RK hM lo s ≤ 6 := pcn_le _ 6
theorem Inv_G {hS hM : MH} {G n m : Nat} (h : IvE hS hM G n m) : G = 5 ∨ G = 54 := by
  rcases h.1 with ⟨q, -⟩ | ⟨q, -⟩
  · exact .inl q
  · exact .inr q
theorem op_rank {N : Nat} (hN : 3000 < N) {hS hM : MH} (h : Inv2 hS hM) (a1 a2 : Int32) : OK2 hS hM (f_S_rank N a1 a2 hS) (f_M_rank N a1 a2 hM) := by
  obtain ⟨G, n, m, hE, hn, hm, eG, e1, e2, e3, e4⟩ := Inv_nm h
  have hL := hE.2.2.1
  have hG := Inv_G hE
  unfold f_S_rank f_M_rank f_S_refuse f_M_refuse f_S_answer f_M_gives
  simp only [eS_isSetOfMarks, eM_areMarks, eS_isOneOf, bnd_some, bz, iteV, eG, e2, e4, shl_n hm]
  by_cases g1 : 0 ≤ a1 ∧ a1 < nI (2 ^ m)
  case neg =>
    simp only [g1, not_false_eq_true, if_true]
    exact OK2_st h Fr.rfl Fr.rfl _ _
  by_cases g2 : 0 ≤ a2 ∧ a2 < 2
  case neg =>
    have g2' : ¬ (0 ≤ a2 ∧ a2 ≤ 1) := by grind
    simp only [g1, g2, g2', and_self, not_true, not_false_eq_true, if_true, if_false]
    exact OK2_st h Fr.rfl Fr.rfl _ _
  have g2' : 0 ≤ a2 ∧ a2 ≤ 1 := by grind
  simp only [g1, g2, g2', and_self, not_true, not_false_eq_true, if_true, if_false]
  have hp := p256 hm
  obtain ⟨s, hs, rfl⟩ := rng (by omega) g1
  obtain ⟨x1, b1, b2⟩ := eS_ranks (N := N) (by omega) hL hG (s := s) (lo := 99) (by omega) lo99
  obtain ⟨x2, c1, c2⟩ := eM_ranks (N := N) (by omega) hL (s := s) (sm := 63) (lo := 99) (by omega) (by omega) sm63 (fun k hk => Nat.testBit_lt_two_pow (Nat.lt_of_lt_of_le hs (Nat.pow_le_pow_right (by omega) hk))) (Fr.rfl (h := hM))
  have c1' : f_M_rankOf N (nI s) 63 hM = some (nI (RK hM 99 s), x2) := c1
  rw [b1, bnd_some, c1', bnd_some]
  dsimp only
  have fS : Fr vS hS x1 := b2.mono (fun _ _ => wT_v)
  have fM : Fr vM hM x2 := c2.mono (fun _ _ => wR_v)
  have q1 : gI x1 (gR x1 1 11) 0 = nI n := by
    rw [b2.r 1 11 rfl, eG]
    rcases hG with rfl | rfl
    · rw [b2.i 5 0 rfl]; exact e1
    · rw [b2.i 54 0 rfl]; exact e1
  rw [q1, c2.i 68 32 rfl, e3]
  by_cases g3 : a2 = 0
  · rw [if_pos g3, if_pos g3]
    exact OK2_st h fS fM _ _
  · rw [if_neg g3, if_neg g3]
    exact OK2_st h fS fM _ _
theorem op_apart {N : Nat} (hN : 3000 < N) {hS hM : MH} (h : Inv2 hS hM) (a1 a2 : Int32) : OK2 hS hM (f_S_apart N a1 a2 hS) (f_M_apart N a1 a2 hM) := by
  obtain ⟨G, n, m, hE, hn, hm, eG, e1, e2, e3, e4⟩ := Inv_nm h
  have hL := hE.2.2.1
  have hG := Inv_G hE
  unfold f_S_apart f_M_apart f_S_refuse f_M_refuse f_S_answer f_M_gives
  simp only [eS_isCell, eM_isCell, eS_isSetOfMarks, eM_areMarks, bnd_some, bz, eG, e1, e2, e3, e4, shl_n hm]
  by_cases g0 : 0 ≤ a1 ∧ a1 < nI n
  case neg =>
    simp only [g0, not_false_eq_true, if_true]
    exact OK2_st h Fr.rfl Fr.rfl _ _
  by_cases g1 : 0 ≤ a2 ∧ a2 < nI (2 ^ m)
  case neg =>
    simp only [g0, g1, and_self, not_true, not_false_eq_true, if_true, if_false]
    exact OK2_st h Fr.rfl Fr.rfl _ _
  simp only [g0, g1, and_self, not_true, not_false_eq_true, if_true, if_false]
  have hp := p256 hm
  obtain ⟨s, hs, rfl⟩ := rng (by omega) g1
  obtain ⟨c, hc, rfl⟩ := rng (by omega) g0
  have hs0 : ∀ k, m ≤ k → s.testBit k = false := fun k hk => Nat.testBit_lt_two_pow (Nat.lt_of_lt_of_le hs (Nat.pow_le_pow_right (by omega) hk))
  obtain ⟨x1, b1, b2⟩ := eS_ranks (N := N) (by omega) hL hG (s := s) (lo := 99) (by omega) lo99
  obtain ⟨x2, c1, c2⟩ := eM_ranks (N := N) (by omega) hL (s := s) (sm := 63) (lo := 99) (by omega) (by omega) sm63 hs0 (Fr.rfl (h := hM))
  have c1' : f_M_rankOf N (nI s) 63 hM = some (nI (RK hM 99 s), x2) := c1
  have fS : Fr vS hS x1 := b2.mono (fun _ _ => wT_v)
  have fM : Fr vM hM x2 := c2.mono (fun _ _ => wR_v)
  obtain ⟨sc1, sc2⟩ := smc_d ⟨c, by omega⟩
  have hL1 : IvL x1 hM G n m := IvL_fr hL b2 (Fr.rfl (W := wR)) (fun a k q => by
    unfold kLS at q; unfold wT
    rcases hG with rfl | rfl <;> (simp at q ⊢; omega)) (fun a k q => by
    unfold kLM at q; unfold wR; simp at q ⊢; omega)
  obtain ⟨x3, d1, d2⟩ := eS_ranks (N := N) (by omega) hL1 hG (s := s) (lo := c) (loI := nI c) (by omega) (fun j hj => by rw [nN_inj (by omega) (by omega)])
  obtain ⟨x4, k1, k2⟩ := eM_ranks (N := N) (by omega) hL (s := s) (sm := 63 - 2 ^ c) (lo := c) (by omega) (Nat.lt_of_le_of_lt (Nat.sub_le _ _) (by omega)) (fun j hj => by
    have := sc2 ⟨j, hj⟩
    simpa [Fin.ext_iff] using this) hs0 fM
  rw [b1, bnd_some, c1', bnd_some]
  dsimp only
  have q1 : gR x1 1 11 = G := by rw [b2.r 1 11 rfl, eG]
  rw [q1, d1, bnd_some]
  dsimp only at sc1
  rw [sc1, k1, bnd_some]
  dsimp only
  have r1 := RK_le hM 99 s
  have r2 := RK_le hM c s
  have z1 : (nI (RK hM c s) = nI (RK hM 99 s) - 1) = (RK hM 99 s = RK hM c s + 1) := by
    have : (nI (RK hM c s) = nI (RK hM 99 s) - 1) ↔ (nI (RK hM 99 s) = nI (RK hM c s) + 1) := by constructor <;> intro q <;> grind
    rw [propext this, show nI (RK hM c s) + 1 = nI (RK hM c s + 1) from nN_add _ 1, nN_inj (by omega) (by omega)]
  have z2 : (nI (RK hM 99 s) = nI (RK hM c s) + 1) = (RK hM 99 s = RK hM c s + 1) := by
    rw [show nI (RK hM c s) + 1 = nI (RK hM c s + 1) from nN_add _ 1, nN_inj (by omega) (by omega)]
  simp only [z1, z2]
  by_cases g3 : RK hM 99 s = RK hM c s + 1
  · rw [if_pos g3, if_pos g3]
    exact OK2_st h (fS.trans (d2.mono (fun _ _ => wT_v))) (fM.trans (k2.mono (fun _ _ => wR_v))) _ _
  · rw [if_neg g3, if_neg g3]
    exact OK2_st h (fS.trans (d2.mono (fun _ _ => wT_v))) (fM.trans (k2.mono (fun _ _ => wR_v))) _ _
