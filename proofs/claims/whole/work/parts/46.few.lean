/-! FEW: how few shakes let go so much -/
def Rep : List Nat → Nat → Nat → Prop
  | [], t, n => t = 0 ∧ n = 0
  | u :: us, t, n => ∃ c, c * u ≤ t ∧ c ≤ n ∧ Rep us (t - c * u) (n - c)
theorem Rep_cons {u : Nat} {us : List Nat} {t n : Nat} (_hu : 1 ≤ u) : Rep (u :: us) t n ↔ Rep us t n ∨ (u ≤ t ∧ 1 ≤ n ∧ Rep (u :: us) (t - u) (n - 1)) := by
  constructor
  · rintro ⟨c, h1, h2, h3⟩
    cases c with
    | zero => left; simpa using h3
    | succ c =>
      right
      rw [Nat.succ_mul] at h1 h3
      refine ⟨by omega, by omega, c, by omega, by omega, ?_⟩
      rw [show t - u - c * u = t - (c * u + u) by omega, show n - 1 - c = n - (c + 1) by omega]
      exact h3
  · rintro (h | ⟨h1, h2, c, h3, h4, h5⟩)
    · exact ⟨0, by omega, by omega, by simpa using h⟩
    · refine ⟨c + 1, by rw [Nat.succ_mul]; omega, by omega, ?_⟩
      rw [Nat.succ_mul, show t - (c * u + u) = t - u - c * u by omega, show n - (c + 1) = n - 1 - c by omega]
      exact h5
theorem Rep_swap {u v : Nat} {us : List Nat} {t n : Nat} (h : Rep (u :: v :: us) t n) : Rep (v :: u :: us) t n := by
  obtain ⟨c, h1, h2, d, h3, h4, h5⟩ := h
  refine ⟨d, by omega, by omega, c, by omega, by omega, ?_⟩
  rw [show t - d * v - c * u = t - c * u - d * v by omega, show n - d - c = n - c - d by omega]
  exact h5
theorem Rep_perm {l l' : List Nat} (p : l.Perm l') : ∀ t n, Rep l t n ↔ Rep l' t n := by
  induction p with
  | nil => intro t n; exact Iff.rfl
  | cons x _ ih =>
    intro t n
    exact ⟨fun ⟨c, h1, h2, h3⟩ => ⟨c, h1, h2, (ih _ _).mp h3⟩, fun ⟨c, h1, h2, h3⟩ => ⟨c, h1, h2, (ih _ _).mpr h3⟩⟩
  | swap x y l => intro t n; exact ⟨Rep_swap, Rep_swap⟩
  | trans _ _ ih1 ih2 => intro t n; exact (ih1 t n).trans (ih2 t n)
theorem Rep_le : ∀ {us : List Nat} {t n : Nat}, (∀ u ∈ us, 1 ≤ u) → Rep us t n → n ≤ t
  | [], t, n, _, h => by obtain ⟨h1, h2⟩ := h; omega
  | u :: us, t, n, hu, ⟨c, h1, h2, h3⟩ => by
    have := Rep_le (fun v hv => hu v (List.mem_cons_of_mem _ hv)) h3
    have h4 := hu u List.mem_cons_self
    have h5 : c * 1 ≤ c * u := Nat.mul_le_mul_left c h4
    omega
/-- the least number, or F where there is none -/
def IsMin (us : List Nat) (t : Nat) (F x : Int32) : Prop := (∃ n, Rep us t n ∧ (∀ k, Rep us t k → n ≤ k) ∧ x = nI n) ∨ ((∀ n, ¬ Rep us t n) ∧ x = F)
theorem IsMin_perm {l l' : List Nat} (p : l.Perm l') {t : Nat} {F x : Int32} (h : IsMin l t F x) : IsMin l' t F x := by
  rcases h with ⟨n, h1, h2, h3⟩ | ⟨h1, h2⟩
  · exact .inl ⟨n, (Rep_perm p t n).mp h1, fun k hk => h2 k ((Rep_perm p t k).mpr hk), h3⟩
  · exact .inr ⟨fun n hn => h1 n ((Rep_perm p t n).mpr hn), h2⟩
theorem IsMin_small {u : Nat} {us : List Nat} {t : Nat} {F x : Int32} (hu : 1 ≤ u) (ht : t < u) (h : IsMin us t F x) : IsMin (u :: us) t F x := by
  have e : ∀ n, Rep (u :: us) t n ↔ Rep us t n := fun n => by rw [Rep_cons hu]; constructor; rintro (q | ⟨q, -⟩); exact q; omega; exact .inl
  rcases h with ⟨n, h1, h2, h3⟩ | ⟨h1, h2⟩
  · exact .inl ⟨n, (e n).mpr h1, fun k hk => h2 k ((e k).mp hk), h3⟩
  · exact .inr ⟨fun n hn => h1 n ((e n).mp hn), h2⟩
def mnI (a b : Int32) : Int32 := if b < a then b else a
theorem eMin_II (N : Nat) (a b : Int32) (h : MH) : f_Math_min_II N a b h = some (mnI a b, h) := by
  unfold f_Math_min_II mnI; split <;> rfl
theorem IsMin_step {u : Nat} {us : List Nat} {t : Nat} {F x y : Int32} {f : Nat} (hF : F = nI f) (hf : 5000 < f) (hf2 : f < 2000000000) (hu : 1 ≤ u) (hus : ∀ v ∈ us, 1 ≤ v) (ht : t ≤ 2000) (hut : u ≤ t) (h1 : IsMin us t F x) (h2 : IsMin (u :: us) (t - u) F y) : IsMin (u :: us) t F (mnI x (y + 1)) := by
  have all : ∀ v ∈ u :: us, 1 ≤ v := fun v hv => by
    rcases List.mem_cons.mp hv with rfl | hv
    · exact hu
    · exact hus v hv
  unfold mnI
  rcases h1 with ⟨n, a1, a2, a3⟩ | ⟨a1, a2⟩
  · have bn := Rep_le hus a1
    rcases h2 with ⟨k, b1, b2, b3⟩ | ⟨b1, b2⟩
    · have bk := Rep_le all b1
      rw [a3, b3, show nI k + 1 = nI (k + 1) from nN_add k 1]
      left
      by_cases c : k + 1 < n
      · rw [if_pos (by rw [nN_lt (by omega) (by omega)]; exact c)]
        refine ⟨k + 1, (Rep_cons hu).mpr (.inr ⟨hut, by omega, by simpa using b1⟩), fun j hj => ?_, rfl⟩
        rcases (Rep_cons hu).mp hj with q | ⟨q1, q2, q3⟩
        · have := a2 j q; omega
        · have := b2 _ q3; omega
      · rw [if_neg (by rw [nN_lt (by omega) (by omega)]; exact c)]
        refine ⟨n, (Rep_cons hu).mpr (.inl a1), fun j hj => ?_, rfl⟩
        rcases (Rep_cons hu).mp hj with q | ⟨q1, q2, q3⟩
        · exact a2 j q
        · have := b2 _ q3; omega
    · rw [a3, b2, hF, show nI f + 1 = nI (f + 1) from nN_add f 1, if_neg (by rw [nN_lt (by omega) (by omega)]; omega)]
      left
      refine ⟨n, (Rep_cons hu).mpr (.inl a1), fun j hj => ?_, rfl⟩
      rcases (Rep_cons hu).mp hj with q | ⟨q1, q2, q3⟩
      · exact a2 j q
      · exact absurd q3 (b1 _)
  · rcases h2 with ⟨k, b1, b2, b3⟩ | ⟨b1, b2⟩
    · have bk := Rep_le all b1
      rw [a2, b3, hF, show nI k + 1 = nI (k + 1) from nN_add k 1, if_pos (by rw [nN_lt (by omega) (by omega)]; omega)]
      left
      refine ⟨k + 1, (Rep_cons hu).mpr (.inr ⟨hut, by omega, by simpa using b1⟩), fun j hj => ?_, rfl⟩
      rcases (Rep_cons hu).mp hj with q | ⟨q1, q2, q3⟩
      · exact absurd q (a1 _)
      · have := b2 _ q3; omega
    · rw [a2, b2, hF, show nI f + 1 = nI (f + 1) from nN_add f 1, if_neg (by rw [nN_lt (by omega) (by omega)]; omega)]
      right
      refine ⟨fun j hj => ?_, rfl⟩
      rcases (Rep_cons hu).mp hj with q | ⟨q1, q2, q3⟩
      · exact a1 _ q
      · exact b1 _ q3
def rl (us : Nat → Nat) (a : Nat) : Nat → List Nat
  | 0 => []
  | l + 1 => us (a + l) :: rl us a l
def fl (us : Nat → Nat) : Nat → Nat → List Nat
  | _, 0 => []
  | a, l + 1 => us a :: fl us (a + 1) l
theorem fl_snoc (us : Nat → Nat) : ∀ l a, fl us a (l + 1) = fl us a l ++ [us (a + l)]
  | 0, a => rfl
  | l + 1, a => by
    rw [fl, fl_snoc us l (a + 1)]
    show _ = us a :: (fl us (a + 1) l ++ [us (a + (l + 1))])
    rw [show a + 1 + l = a + (l + 1) by omega]
theorem rl_fl (us : Nat → Nat) (a : Nat) : ∀ l, (rl us a l).Perm (fl us a l)
  | 0 => .nil
  | l + 1 => by
    rw [fl_snoc, rl]
    exact (List.Perm.cons _ (rl_fl us a l)).trans (List.perm_append_singleton _ _).symm
theorem rl_mem {us : Nat → Nat} {a : Nat} : ∀ {l v : Nat}, v ∈ rl us a l → ∃ i, i < l ∧ v = us (a + i)
  | 0, v, h => by cases h
  | l + 1, v, h => by
    rcases List.mem_cons.mp h with rfl | h
    · exact ⟨l, by omega, rfl⟩
    · obtain ⟨i, hi, e⟩ := rl_mem h; exact ⟨i, by omega, e⟩
theorem fl_mem {us : Nat → Nat} : ∀ {l a v : Nat}, v ∈ fl us a l → ∃ i, i < l ∧ v = us (a + i)
  | 0, a, v, h => by cases h
  | l + 1, a, v, h => by
    rcases List.mem_cons.mp h with rfl | h
    · exact ⟨0, by omega, rfl⟩
    · obtain ⟨i, hi, e⟩ := fl_mem h; exact ⟨i + 1, by omega, by rw [e]; congr 1; omega⟩
def w53 (c _k : Nat) : Bool := c == 53
/-- the class's table -/
def CF (h : MH) (L : List Nat) (most : Nat) : Prop := ∀ t, t ≤ most → IsMin L t 1000000 (gI h 53 t)
theorem lCF45 {N : Nat} {us : Nat → Nat} {many most : Nat} (hmost : most ≤ 2000) {i : Nat} (hi8 : i < 8) {h0 : MH} (hu : gI h0 51 i = nI (us i)) (hu1 : 1 ≤ us i ∧ us i ≤ 99) {L : List Nat} (hL : ∀ v ∈ L, 1 ≤ v) (K : Nat) (res : Option MH → Prop)
    (cont : ∀ h n, K ≤ n → Fr w53 h0 h → CF h (us i :: L) most → res ((L_Few_countFewest N n).1 (nI many) (nI most) (nI (i + 1)) h)) :
    ∀ (d t n : Nat) (h : MH), t + d = max (us i) (most + 1) → us i ≤ t → K + d < n → Fr w53 h0 h → (∀ q, q ≤ most → q < t → IsMin (us i :: L) q 1000000 (gI h 53 q)) → (∀ q, q ≤ most → t ≤ q → IsMin L q 1000000 (gI h 53 q)) → res ((L_Few_countFewest N n).2 (nI many) (nI most) (nI i) (nI t) h) := by
  intro d
  induction d with
  | zero =>
    intro t n h hd ht hn fr t1 t2
    obtain ⟨n, rfl⟩ : ∃ q, n = q + 1 := ⟨n - 1, by omega⟩
    show res (F_Few_countFewest_45 N (L_Few_countFewest N n) (nI many) (nI most) (nI i) (nI t) h)
    unfold F_Few_countFewest_45
    rw [if_pos (by rw [nN_lt (by omega) (by omega)]; omega), show nI i + 1 = nI (i + 1) from nN_add i 1]
    exact cont h n (by omega) fr (fun q hq => t1 q hq (by omega))
  | succ d ih =>
    intro t n h hd ht hn fr t1 t2
    obtain ⟨n, rfl⟩ : ∃ q, n = q + 1 := ⟨n - 1, by omega⟩
    have tm : t ≤ most := by omega
    show res (F_Few_countFewest_45 N (L_Few_countFewest N n) (nI many) (nI most) (nI i) (nI t) h)
    unfold F_Few_countFewest_45
    have e51 : gI h 51 i = nI (us i) := by rw [fr.i 51 i rfl, hu]
    have b1 : inB (nI t) 2001 = true := by rw [inB_nI (by omega)]; omega
    have b2 : inB (nI i) 8 = true := by rw [inB_nI (by omega)]; omega
    have b3 : inB (nI (t - us i)) 2001 = true := by rw [inB_nI (by omega)]; omega
    rw [if_neg (by rw [nN_lt (by omega) (by omega)]; omega), if_neg (by rw [show (2000 : Int32) = nI 2000 from rfl, nN_lt (by omega) (by omega)]; omega), iN_nI (by omega), e51, nN_sub ht, iN_nI (by omega)]
    simp only [b1, b2, b3, if_true, eMin_II, bnd_some]
    rw [iN_nI (by omega), show nI t + 1 = nI (t + 1) from nN_add t 1]
    refine ih (t + 1) n _ (by omega) (by omega) (by omega) (fr.sI 53 t _ rfl) (fun q q1 q2 => ?_) (fun q q1 q2 => ?_)
    · rw [gI_sI]
      by_cases c : q = t
      · subst c
        rw [if_pos ⟨rfl, rfl⟩]
        exact IsMin_step (f := 1000000) rfl (by omega) (by omega) hu1.1 hL (by omega) ht (t2 q q1 (Nat.le_refl _)) (t1 (q - us i) (by omega) (by omega))
      · rw [if_neg (by omega)]
        exact t1 q q1 (by omega)
    · rw [gI_sI, if_neg (by omega)]
      exact t2 q q1 (by omega)
theorem eCF {N : Nat} (hN : 30000 < N) {us : Nat → Nat} {many most from' : Nat} (hmost : most ≤ 2000) (hmany : many ≤ 8) {h0 : MH} (hu : ∀ i, i < many → gI h0 51 i = nI (us i) ∧ 1 ≤ us i ∧ us i ≤ 99) (hfm : from' ≤ many) : ∃ h', f_Few_countFewest N (nI from') (nI many) (nI most) h0 = some h' ∧ Fr w53 h0 h' ∧ CF h' (fl us from' (many - from')) most := by
  obtain ⟨x1, a1, a2, a3, a4, a5⟩ := fFillI (N := N) 2001 53 1000000 h0 (by omega) (by omega)
  have fx : Fr w53 h0 (sI x1 53 0 0) := by
    refine Fr.sI ⟨a5, fun c k w => ⟨?_, a3 c k, a4 c k⟩⟩ 53 0 0 rfl
    rw [a2, if_neg]
    rintro ⟨q, -⟩
    rw [q] at w; revert w; simp [w53]
  have main : ∀ (d l n : Nat) (h : MH), l + d = many - from' → 2100 * d < n → Fr w53 h0 h → CF h (rl us from' l) most → ∃ h', (L_Few_countFewest N n).1 (nI many) (nI most) (nI (from' + l)) h = some h' ∧ Fr w53 h0 h' ∧ CF h' (rl us from' (many - from')) most := by
    intro d
    induction d with
    | zero =>
      intro l n h hd hn fr cf
      obtain ⟨n, rfl⟩ : ∃ q, n = q + 1 := ⟨n - 1, by omega⟩
      refine ⟨h, ?_, fr, by rw [show many - from' = l by omega]; exact cf⟩
      show F_Few_countFewest_19 N (L_Few_countFewest N n) (nI many) (nI most) (nI (from' + l)) h = _
      unfold F_Few_countFewest_19
      rw [if_pos (by rw [nN_le (by omega) (by omega)]; omega)]
    | succ d ih =>
      intro l n h hd hn fr cf
      obtain ⟨n, rfl⟩ : ∃ q, n = q + 1 := ⟨n - 1, by omega⟩
      show ∃ h', F_Few_countFewest_19 N (L_Few_countFewest N n) (nI many) (nI most) (nI (from' + l)) h = some h' ∧ _
      unfold F_Few_countFewest_19 f_Math_max
      obtain ⟨u1, u2, u3⟩ := hu (from' + l) (by omega)
      have e51 : gI h 51 (from' + l) = nI (us (from' + l)) := by rw [fr.i 51 _ rfl, u1]
      rw [if_neg (by rw [nN_le (by omega) (by omega)]; omega), if_neg (by rw [L8, nN_le (by omega) (by omega)]; omega), if_pos (by rw [inB_nI (by omega)]; omega), iN_nI (by omega), e51, if_neg (by rw [L0, nN_lt (by omega) (by omega)]; omega), bnd_some]
      dsimp only
      refine lCF45 (N := N) (us := us) (many := many) hmost (i := from' + l) (by omega) (h0 := h) e51 ⟨u2, u3⟩ (L := rl us from' l) (fun v hv => by
        obtain ⟨i, hi, rfl⟩ := rl_mem hv
        exact (hu (from' + i) (by omega)).2.1) (2100 * d + 1) (fun o => ∃ h', o = some h' ∧ Fr w53 h0 h' ∧ CF h' (rl us from' (many - from')) most) (fun h1 n1 hn1 f1 cf1 => ?_) (max (us (from' + l)) (most + 1) - us (from' + l)) (us (from' + l)) (n + 1) h (by omega) (Nat.le_refl _) (by omega) Fr.rfl (fun q q1 q2 => IsMin_small u2 q2 (cf q q1)) (fun q q1 q2 => cf q q1)
      exact ih (l + 1) n1 h1 (by omega) (by omega) (fr.trans f1) cf1
  obtain ⟨h', b1, b2, b3⟩ := main (many - from') 0 (N + 1) (sI x1 53 0 0) (by omega) (by omega) fx (fun t ht => by
    rw [gI_sI]
    by_cases c : t = 0
    · subst c; rw [if_pos ⟨rfl, rfl⟩]
      exact .inl ⟨0, ⟨rfl, rfl⟩, fun k hk => by omega, rfl⟩
    · rw [if_neg (by omega), a2, if_pos (by omega)]
      exact .inr ⟨fun n hn => c hn.1, rfl⟩)
  refine ⟨h', ?_, b2, fun t ht => IsMin_perm (rl_fl us from' _) (b3 t ht)⟩
  show F_Few_countFewest_0 N (L_Few_countFewest N N) (nI from') (nI many) (nI most) h0 = _
  unfold F_Few_countFewest_0
  rw [a1, bnd_some, if_pos (by decide)]
  exact b1
/-- the reference's table -/
def CM (h : MH) (us : Nat → Nat) (many k : Nat) : Prop := ∀ t, t ≤ 2000 → IsMin (fl us k (many - k)) t 100000000 (gI h 113 (2001 * k + t))
def w113 (c _k : Nat) : Bool := c == 113
theorem lM177 {N : Nat} {us : Nat → Nat} {many k : Nat} (hmany : many ≤ 8) (hk : k ≤ many) {h0 : MH} (hu : ∀ i, i < many → gI h0 115 i = nI (us i) ∧ 1 ≤ us i ∧ us i ≤ 99) (least most : Int32) (K : Nat) (res : Option (Int32 × MH) → Prop)
    (cont : ∀ h n, K ≤ n → Fr w113 h0 h → (∀ j, k ≤ j → j ≤ many → CM h us many j) → res ((L_M_few N n).2.2.1 (nI many) least most (nI k + -1) h)) :
    ∀ (d t n : Nat) (h : MH), t + d = 2001 → K + d < n → Fr w113 h0 h → (∀ j, k < j → j ≤ many → CM h us many j) → (∀ q, q < t → IsMin (fl us k (many - k)) q 100000000 (gI h 113 (2001 * k + q))) → res ((L_M_few N n).2.2.2.1 (nI many) least most (nI k) (nI t) h) := by
  intro d
  induction d with
  | zero =>
    intro t n h hd hn fr c1 c2
    obtain ⟨n, rfl⟩ : ∃ q, n = q + 1 := ⟨n - 1, by omega⟩
    show res (F_M_few_177 N (L_M_few N n) (nI many) least most (nI k) (nI t) h)
    unfold F_M_few_177
    rw [if_pos (by rw [show (2000 : Int32) = nI 2000 from rfl, nN_lt (by omega) (by omega)]; omega)]
    refine cont h n (by omega) fr (fun j j1 j2 => ?_)
    by_cases q : j = k
    · subst q; exact fun t ht => c2 t (by omega)
    · exact c1 j (by omega) j2
  | succ d ih =>
    intro t n h hd hn fr c1 c2
    obtain ⟨n, rfl⟩ : ∃ q, n = q + 1 := ⟨n - 1, by omega⟩
    have ib : inB (nI (2001 * k + t)) 18009 = true := by rw [inB_nI (by omega)]; omega
    have ix : 2001 * nI k + nI t = nI (2001 * k + t) := by rw [show (2001 : Int32) = nI 2001 from rfl, nN_mul, nN_add]
    have step : ∀ v, IsMin (fl us k (many - k)) t 100000000 v → res (F_M_few_273 N (L_M_few N n) (nI many) least most (nI k) (nI t) v h) := by
      intro v hv
      unfold F_M_few_273
      rw [ix, if_pos ib, iN_nI (by omega), show nI t + 1 = nI (t + 1) from nN_add t 1]
      refine ih (t + 1) n _ (by omega) (by omega) (fr.sI 113 _ _ rfl) (fun j j1 j2 q hq => ?_) (fun q hq => ?_)
      · rw [gI_sI, if_neg (by omega)]; exact c1 j j1 j2 q hq
      · rw [gI_sI]
        by_cases z : q = t
        · rw [if_pos (by omega), z]; exact hv
        · rw [if_neg (by omega)]; exact c2 q (by omega)
    show res (F_M_few_177 N (L_M_few N n) (nI many) least most (nI k) (nI t) h)
    unfold F_M_few_177
    rw [if_neg (by rw [show (2000 : Int32) = nI 2000 from rfl, nN_lt (by omega) (by omega)]; omega)]
    have ek : (nI k = nI many) = (k = many) := nN_inj (by omega) (by omega)
    have et : (nI t = 0) = (t = 0) := nN_inj (b := 0) (by omega) (by omega)
    simp only [ek, et]
    by_cases g : k = many
    · rw [if_pos g]
      have le : nI many ≤ nI k := by rw [nN_le (by omega) (by omega)]; omega
      have el : fl us k (many - k) = [] := by rw [g]; simp [fl]
      unfold F_M_few_222
      by_cases t0 : t = 0
      · rw [if_pos t0, if_pos le]
        exact step 0 (by rw [el]; exact .inl ⟨0, ⟨t0, rfl⟩, fun j hj => by omega, rfl⟩)
      · rw [if_neg t0, if_pos le]
        exact step 100000000 (by rw [el]; exact .inr ⟨fun n hn => t0 hn.1, rfl⟩)
    · rw [if_neg g]
      have iy : 2001 * (nI k + 1) + nI t = nI (2001 * (k + 1) + t) := by rw [show nI k + 1 = nI (k + 1) from nN_add k 1, show (2001 : Int32) = nI 2001 from rfl, nN_mul, nN_add]
      rw [iy, if_pos (by rw [inB_nI (by omega)]; omega), iN_nI (by omega)]
      have old := c1 (k + 1) (by omega) (by omega) t (by omega)
      obtain ⟨u1, u2, u3⟩ := hu k (by omega)
      have e115 : gI h 115 k = nI (us k) := by rw [fr.i 115 k rfl, u1]
      have el : fl us k (many - k) = us k :: fl us (k + 1) (many - (k + 1)) := by rw [show many - k = (many - (k + 1)) + 1 by omega]; rfl
      have b8 : inB (nI k) 8 = true := by rw [inB_nI (by omega)]; omega
      unfold F_M_few_222
      rw [if_neg (show ¬ nI many ≤ nI k by rw [nN_le (by omega) (by omega)]; omega), if_pos b8, iN_nI (show k < 2147483648 by omega), e115]
      by_cases tu : t < us k
      · rw [if_pos (by rw [nN_lt (by omega) (by omega)]; exact tu)]
        exact step _ (by rw [el]; exact IsMin_small u2 tu old)
      · rw [if_neg (by rw [nN_lt (by omega) (by omega)]; exact tu), if_pos b8, ix, nN_sub (by omega), if_pos (by rw [inB_nI (by omega)]; omega), iN_nI (by omega), eMin_II, bnd_some]
        dsimp only
        refine step _ ?_
        rw [el]
        have prev := c2 (t - us k) (by omega)
        rw [el, show 2001 * k + (t - us k) = 2001 * k + t - us k by omega] at prev
        have := IsMin_step (f := 100000000) rfl (by omega) (by omega) u2 (fun v hv => by
          obtain ⟨i, hi, rfl⟩ := fl_mem hv
          exact (hu (k + 1 + i) (by omega)).2.1) (by omega) (by omega) old prev
        rw [show gI h 113 (2001 * k + t - us k) + 1 = 1 + gI h 113 (2001 * k + t - us k) from Int32.add_comm _ _] at this
        exact this
theorem lM169 {N : Nat} {us : Nat → Nat} {many : Nat} (hmany : many ≤ 8) {h0 : MH} (hu : ∀ i, i < many → gI h0 115 i = nI (us i) ∧ 1 ≤ us i ∧ us i ≤ 99) (least most : Int32) (K : Nat) (res : Option (Int32 × MH) → Prop)
    (cont : ∀ h n, K ≤ n → Fr w113 h0 h → (∀ j, j ≤ many → CM h us many j) → res ((L_M_few N (n + 1)).2.2.2.2.1 (nI many) most (-1) least h)) :
    ∀ (q n : Nat) (h : MH), q ≤ many + 1 → K + 2010 * q < n → Fr w113 h0 h → (∀ j, q ≤ j → j ≤ many → CM h us many j) → res ((L_M_few N n).2.2.1 (nI many) least most (nI q + -1) h) := by
  intro q
  induction q with
  | zero =>
    intro n h hq hn fr c
    obtain ⟨n, rfl⟩ : ∃ q, n = q + 1 := ⟨n - 1, by omega⟩
    show res (F_M_few_169 N (L_M_few N n) (nI many) least most (nI 0 + -1) h)
    unfold F_M_few_169
    rw [if_pos (by decide)]
    exact cont h n (by omega) fr (fun j hj => c j (by omega) hj)
  | succ q ih =>
    intro n h hq hn fr c
    obtain ⟨n, rfl⟩ : ∃ q, n = q + 1 := ⟨n - 1, by omega⟩
    rw [show (L_M_few N (n + 1)).2.2.1 = F_M_few_169 N (L_M_few N n) from rfl]
    unfold F_M_few_169
    rw [nN_pred, if_neg (by rw [L0, nN_lt (by omega) (by omega)]; omega)]
    have hu' : ∀ i, i < many → gI h 115 i = nI (us i) ∧ 1 ≤ us i ∧ us i ≤ 99 := fun i hi => by rw [fr.i 115 i rfl]; exact hu i hi
    have key := lM177 (N := N) (us := us) hmany (k := q) (by omega) hu' least most (K + 2010 * q + 1) res (fun h1 n1 hn1 f1 c1 => ih n1 h1 (by omega) (by omega) (fr.trans f1) c1)
    have hn3 : K + 2010 * q + 1 + 2001 < n + 1 := by
      rw [Nat.mul_succ, ← Nat.add_assoc] at hn
      have a : K + 2010 * q + 1 + 2001 = K + 2010 * q + 2002 := Nat.add_assoc _ _ _
      rw [a]
      exact Nat.lt_of_le_of_lt (Nat.add_le_add_left (by decide) _) hn
    have key2 := key 2001 0 (n + 1) h (Nat.zero_add 2001) hn3 Fr.rfl (fun j j1 j2 => c j (Nat.succ_le_of_lt j1) j2)
    have key3 := key2 (fun z hz => absurd hz (Nat.not_lt_zero z))
    exact key3
