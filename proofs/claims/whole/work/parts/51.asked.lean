/-! SLIPS: the class's questions -/
def mn (U : Nat → Nat → Int) (k : Nat) : Nat → Int
  | 0 => 0
  | c + 1 => mn U k c + min (9 * U c k) 0
def mx (U : Nat → Nat → Int) (k : Nat) : Nat → Int
  | 0 => 0
  | c + 1 => mx U k c + max (9 * U c k) 0
theorem unit_rng {d : Nat} (hd : d < 10) (u : Int) : min (9 * u) 0 ≤ d * u ∧ d * u ≤ max (9 * u) 0 := by
  rcases Nat.lt_or_ge 0 d with _ | _
  · rcases Int.le_total 0 u with h | h
    · have h1 : (0 : Int) ≤ d * u := Int.mul_nonneg (by omega) h
      have h2 : (d : Int) * u ≤ 9 * u := Int.mul_le_mul_of_nonneg_right (by omega) h
      omega
    · have h1 : (d : Int) * u ≤ 0 := Int.mul_nonpos_of_nonneg_of_nonpos (by omega) h
      have h2 : 9 * u ≤ (d : Int) * u := Int.mul_le_mul_of_nonpos_right (by omega) h
      omega
  · have : d = 0 := by omega
    subst this
    have : ((0 : Nat) : Int) * u = 0 := by simp
    omega
theorem ps_rng {U : Nat → Nat → Int} {k : Nat} {x : Nat → Nat} (x9 : ∀ c, x c < 10) (c : Nat) : ∀ d, mn U k (c + d) - mn U k c ≤ ps U k x (c + d) - ps U k x c ∧ ps U k x (c + d) - ps U k x c ≤ mx U k (c + d) - mx U k c
  | 0 => by simp
  | d + 1 => by
    have ih := ps_rng (U := U) (k := k) x9 c d
    have := unit_rng (x9 (c + d)) (U (c + d) k)
    rw [← Nat.add_assoc, show mn U k (c + d + 1) = mn U k (c + d) + min (9 * U (c + d) k) 0 from rfl, show mx U k (c + d + 1) = mx U k (c + d) + max (9 * U (c + d) k) 0 from rfl, show ps U k x (c + d + 1) = ps U k x (c + d) + x (c + d) * U (c + d) k from rfl]
    omega
theorem mn_bd {U : Nat → Nat → Int} {k : Nat} (hU : ∀ c, c < 6 → (U c k).natAbs ≤ 9) : ∀ c, c ≤ 6 → (mn U k c).natAbs ≤ 81 * c ∧ (mx U k c).natAbs ≤ 81 * c
  | 0, _ => by simp [mn, mx]
  | c + 1, hc => by
    have ih := mn_bd hU c (by omega)
    have := hU c (by omega)
    unfold mn mx
    omega
/-- the class's heap tells the problem; mv: the marks that moved -/
def AS (P : PB) (mv : Nat) (h : MH) : Prop := P.1 ≤ 6 ∧ P.2.1 ≤ 8 ∧ gI h 33 0 = nI P.1 ∧ gI h 33 1 = nI P.2.1 ∧ (∀ c k, c < 6 → k < 8 → (gI h 34 (8 * c + k)).toInt = pU P c k ∧ (pU P c k).natAbs ≤ 9) ∧ (∀ a, a < 6 → ∃ s, s < 64 ∧ gI h 35 a = nI s ∧ ∀ b, b < 6 → s.testBit b = pN P a b) ∧ (∀ k, k < P.2.1 → mv.testBit k = true → (gI h 36 k).toInt = pl P k ∧ (gI h 37 k).toInt = pH P k ∧ (pl P k).natAbs ≤ 100000 ∧ (pH P k).natAbs ≤ 100000) ∧
  (∀ c k, c ≤ P.1 → k < 8 → (gI h 38 (8 * c + k)).toInt = mn (pU P) k P.1 - mn (pU P) k c ∧ (gI h 39 (8 * c + k)).toInt = mx (pU P) k P.1 - mx (pU P) k c)
/-- what the walk writes -/
def wW (c k : Nat) : Bool := c == 40 || c == 41 || c == 43 || c == 44 || c == 45 || c == 47 || (c == 42 && (4 ≤ k))
theorem AS_fr {P : PB} {mv : Nat} {h h' : MH} (p : AS P mv h) (f : Fr wW h h') : AS P mv h' := by
  obtain ⟨p1, p2, p3, p4, p5, p6, p7, p8⟩ := p
  refine ⟨p1, p2, by rw [f.i 33 0 rfl]; exact p3, by rw [f.i 33 1 rfl]; exact p4, fun c k hc hk => by rw [f.i 34 _ rfl]; exact p5 c k hc hk, fun a ha => by rw [f.i 35 _ rfl]; exact p6 a ha, fun k hk hb => by rw [f.i 36 _ rfl, f.i 37 _ rfl]; exact p7 k hk hb, fun c k hc hk => by rw [f.i 38 _ rfl, f.i 39 _ rfl]; exact p8 c k hc hk⟩
/-- the numbers put so far: cells below c -/
def PX (P : PB) (h : MH) (c : Nat) (x : Nat → Nat) : Prop := (∀ i, i < c → gI h 40 i = nI (x i)) ∧ ∀ i k, i ≤ c → k < P.2.1 → (gI h 41 (8 * i + k)).toInt = ps (pU P) k x i
/-- frame of one put, and of all that lies behind a cell -/
def wB (c0 c k : Nat) : Bool := (c == 40 && c0 ≤ k) || (c == 41 && 8 * (c0 + 1) ≤ k) || c == 43 || (c == 44 && c0 ≤ k) || (c == 45 && c0 ≤ k) || (c == 42 && (4 ≤ k && k ≤ 7))
theorem wB_W {c0 c k : Nat} (h : wW c k = false) : wB c0 c k = false := by
  unfold wW at h; unfold wB; simp at h ⊢; omega
theorem wB_up {c0 c k : Nat} (h : wB c0 c k = false) : wB (c0 + 1) c k = false := by
  unfold wB at h ⊢; simp at h ⊢; omega
theorem PX_fr {P : PB} {h h' : MH} {c : Nat} {x : Nat → Nat} (p : PX P h c x) (p2 : P.2.1 ≤ 8) (f : Fr (wB c) h h') : PX P h' c x := by
  refine ⟨fun i hi => by rw [f.i 40 i (by simp [wB]; omega)]; exact p.1 i hi, fun i k hi hk => ?_⟩
  rw [f.i 41 _ (by simp [wB]; omega)]; exact p.2 i k hi hk
theorem lPut {N : Nat} {P : PB} {mv : Nat} {c d : Nat} (hc : c < 6) (hd : d < 10) : ∀ (e k f : Nat) (h : MH), k + e = P.2.1 → e < f → AS P mv h → ∃ h', L_Asked_put N f (nI d) (nI (8 * c)) (nI k) h = some h' ∧ Fr (fun a b => a == 41 && 8 * (c + 1) + k ≤ b) h h' ∧ ∀ j, k ≤ j → j < P.2.1 → gI h' 41 (8 * (c + 1) + j) = gI h 41 (8 * c + j) + nI d * gI h 34 (8 * c + j) := by
  intro e
  induction e with
  | zero =>
    intro k f h he hf as
    obtain ⟨f, rfl⟩ : ∃ z, f = z + 1 := ⟨f - 1, by omega⟩
    obtain ⟨p1, p2, p3, p4, -⟩ := as
    refine ⟨h, ?_, Fr.rfl, fun j j1 j2 => by omega⟩
    show F_Asked_put_15 N (L_Asked_put N f) _ _ (nI k) h = _
    unfold F_Asked_put_15
    rw [p4, if_pos (by rw [nN_le (by omega) (by omega)]; omega)]
  | succ e ih =>
    intro k f h he hf as
    obtain ⟨f, rfl⟩ : ∃ z, f = z + 1 := ⟨f - 1, by omega⟩
    obtain ⟨p1, p2, p3, p4, -⟩ := id as
    show ∃ h', F_Asked_put_15 N (L_Asked_put N f) (nI d) (nI (8 * c)) (nI k) h = some h' ∧ _
    unfold F_Asked_put_15
    rw [p4, if_neg (by rw [nN_le (by omega) (by omega)]; omega), nN_add, L8, nN_add, nN_add, if_pos (by rw [inB_nI (by omega)]; omega), if_pos (by rw [inB_nI (by omega)]; omega), if_pos (by rw [inB_nI (by omega)]; omega), iN_nI (by omega), iN_nI (by omega), show nI k + 1 = nI (k + 1) from nN_add k 1, show 8 * c + 8 = 8 * (c + 1) by omega]
    have fr1 : Fr (fun a b => a == 41 && 8 * (c + 1) + k ≤ b) h (sI h 41 (8 * (c + 1) + k) (gI h 41 (8 * c + k) + nI d * gI h 34 (8 * c + k))) := Fr.rfl.sI 41 _ _ (by simp)
    obtain ⟨h', a1, a2, a3⟩ := ih (k + 1) f _ (by omega) (by omega) (AS_fr as (fr1.mono (fun a b q => by simp [wW] at q; simp; omega)))
    refine ⟨h', a1, fr1.trans (a2.mono (fun a b q => by simp at q ⊢; intro z; have := q z; omega)), fun j j1 j2 => ?_⟩
    by_cases z : j = k
    · subst z
      rw [a2.i 41 _ (by simp), gI_sI, if_pos ⟨rfl, rfl⟩]
    · rw [a3 j (by omega) j2, gI_sI, gI_sI, if_neg (by omega), if_neg (by omega)]
theorem ePut {N : Nat} (hN : 100 < N) {P : PB} {mv : Nat} {c d : Nat} (hc : c < 6) (hd : d < 10) {h : MH} {x : Nat → Nat} (as : AS P mv h) (px : PX P h c x) (x9 : ∀ i, x i < 10) : ∃ h', f_Asked_put N (nI c) (nI d) h = some h' ∧ Fr (fun a b => (a == 40 && b == c) || (a == 41 && 8 * (c + 1) ≤ b)) h h' ∧ PX P h' (c + 1) (fun i => if i = c then d else x i) := by
  obtain ⟨p1, p2, p3, p4, p5, -⟩ := id as
  have fr0 : Fr (fun a b => (a == 40 && b == c) || (a == 41 && 8 * (c + 1) ≤ b)) h (sI h 40 c (nI d)) := Fr.rfl.sI 40 c _ (by simp)
  obtain ⟨h', a1, a2, a3⟩ := lPut (N := N) hc hd P.2.1 0 (N + 1) (sI h 40 c (nI d)) (by omega) (by omega) (AS_fr as (fr0.mono (fun a b q => by simp [wW] at q; simp; omega)))
  have fr : Fr (fun a b => (a == 40 && b == c) || (a == 41 && 8 * (c + 1) ≤ b)) h h' := fr0.trans (a2.mono (fun a b q => by simp at q ⊢; intro z; have := q.2 z; omega))
  refine ⟨h', ?_, fr, fun i hi => ?_, fun i k hi hk => ?_⟩
  · show F_Asked_put_0 N (L_Asked_put N N) (nI c) (nI d) h = _
    unfold F_Asked_put_0
    rw [if_pos (by rw [inB_nI (by omega)]; exact hc), iN_nI (by omega), L8, nN_mul, Nat.mul_comm c 8]
    exact a1
  · rw [a2.i 40 _ (by simp), gI_sI]
    by_cases z : i = c
    · rw [if_pos ⟨rfl, z⟩]; simp [z]
    · rw [if_neg (by omega)]; simp only [z, if_false]; exact px.1 i (by omega)
  · have cong : ∀ j, j ≤ c → ps (pU P) k (fun i => if i = c then d else x i) j = ps (pU P) k x j := fun j hj => ps_congr (fun i hi => by simp; intro z; omega)
    by_cases z : i = c + 1
    · subst z
      rw [a3 k (by omega) hk]
      show (gI h 41 (8 * c + k) + nI d * gI h 34 (8 * c + k)).toInt = _
      obtain ⟨u1, u2⟩ := p5 c k hc (by omega)
      have em := mulU (a := d) (b := gI h 34 (8 * c + k)) hd (by rw [u1]; exact u2)
      rw [u1] at em
      have hU : ∀ c, c < 6 → (pU P c k).natAbs ≤ 9 := fun c hc => (p5 c k hc (by omega)).2
      have b1 := ps_bd (k := k) (x := x) hU (fun c _ => x9 c) c (by omega)
      have e3 : ps (pU P) k (fun i => if i = c then d else x i) (c + 1) = ps (pU P) k x c + d * pU P c k := by
        show ps (pU P) k _ c + _ = _
        rw [cong c (Nat.le_refl _)]; simp
      have b3 := nb (x := (d : Int)) (y := pU P c k) (A := 9) (B := 9) (by omega) u2
      rw [e3, i_add, px.2 c k (Nat.le_refl _) hk, em] <;> rw [px.2 c k (Nat.le_refl _) hk, em] <;> omega
    · rw [fr.i 41 _ (by simp; omega), px.2 i k (by omega) hk, cong i (by omega)]
theorem sset_d : ∀ s : Fin 64, ∀ m : Fin 6, ((nI s >>> (nI m &&& 31)) &&& 1 = 0) ↔ s.val.testBit m.val = false := by decide +kernel
/-- the least and the most beside: cells below c that lie near it -/
theorem eLeast {N : Nat} (hN : 100 < N) {P : PB} {mv : Nat} {c s : Nat} (hc : c < 6) (hs : s ≤ 9) {h : MH} {x : Nat → Nat} (as : AS P mv h) (px : ∀ i, i < c → gI h 40 i = nI (x i)) (x9 : ∀ i, x i < 10) : ∃ l, f_Asked_leastBeside N (nI c) (nI s) h = some (nI l, h) ∧ l ≤ 9 ∧ ∀ d, l ≤ d ↔ ∀ o, o < c → pN P c o = true → x o ≤ d + s := by
  obtain ⟨p1, p2, p3, p4, p5, p6, -⟩ := id as
  obtain ⟨st, st1, st2, st3⟩ := p6 c hc
  have main : ∀ (e o f l : Nat), o + e = c → e < f → l ≤ 9 → (∀ d, l ≤ d ↔ ∀ i, i < o → pN P c i = true → x i ≤ d + s) → ∃ w, L_Asked_leastBeside N f (nI c) (nI s) (nI l) (nI o) h = some (nI w, h) ∧ w ≤ 9 ∧ ∀ d, w ≤ d ↔ ∀ i, i < c → pN P c i = true → x i ≤ d + s := by
    intro e
    induction e with
    | zero =>
      intro o f l he hf hl hq
      obtain ⟨f, rfl⟩ : ∃ z, f = z + 1 := ⟨f - 1, by omega⟩
      have ec : o = c := by omega
      rw [ec] at hq ⊢
      refine ⟨l, ?_, hl, hq⟩
      show F_Asked_leastBeside_5 N (L_Asked_leastBeside N f) _ _ _ (nI c) h = _
      unfold F_Asked_leastBeside_5
      rw [if_pos (by rw [nN_le (by omega) (by omega)]; omega)]
    | succ e ih =>
      intro o f l he hf hl hq
      obtain ⟨f, rfl⟩ : ∃ z, f = z + 1 := ⟨f - 1, by omega⟩
      show ∃ w, F_Asked_leastBeside_5 N (L_Asked_leastBeside N f) _ _ _ (nI o) h = _ ∧ _
      unfold F_Asked_leastBeside_5
      have bt : ((nI st >>> (nI o &&& 31)) &&& 1 = 0) = (pN P c o = false) := by rw [← st3 o (by omega)]; exact propext (sset_d ⟨st, st1⟩ ⟨o, by omega⟩)
      rw [if_neg (by rw [nN_le (by omega) (by omega)]; omega), if_pos (by rw [inB_nI (by omega)]; exact hc), iN_nI (show c < 2147483648 by omega), st2, show nI o + 1 = nI (o + 1) from nN_add o 1]
      simp only [bt]
      by_cases b : pN P c o = false
      · rw [if_pos b]
        refine ih (o + 1) f l (by omega) (by omega) hl (fun d => ?_)
        rw [hq d]
        constructor
        · intro q i hi hn
          by_cases z : i = o
          · rw [z, b] at hn; cases hn
          · exact q i (by omega) hn
        · intro q i hi; exact q i (by omega)
      · rw [if_neg b, if_pos (by rw [inB_nI (by omega)]; omega), iN_nI (by omega), px o (by omega)]
        have bt' : pN P c o = true := by cases z : pN P c o; exact absurd z b; rfl
        have xo := x9 o
        have mxe : f_Math_max N (nI l) (nI (x o) - nI s) h = some (nI (max l (x o - s)), h) := by
          unfold f_Math_max
          have e1 : (nI l < nI (x o) - nI s) = (l + s < x o) := by
            rw [Int32.lt_iff_toInt_lt, i_sub, nN_toInt (by omega), nN_toInt (by omega), nN_toInt (by omega)]
            · exact propext (by omega)
            · rw [nN_toInt (by omega), nN_toInt (by omega)]; omega
            · rw [nN_toInt (by omega), nN_toInt (by omega)]; omega
          simp only [e1]
          by_cases q : l + s < x o
          · rw [if_pos q, nN_sub (by omega), Nat.max_eq_right (by omega)]
          · rw [if_neg q, Nat.max_eq_left (by omega)]
        rw [mxe, bnd_some]
        refine ih (o + 1) f _ (by omega) (by omega) (by omega) (fun d => ?_)
        rw [Nat.max_le, hq d]
        constructor
        · rintro ⟨q1, q2⟩ i hi hn
          by_cases z : i = o
          · rw [z]; omega
          · exact q1 i (by omega) hn
        · intro q
          have := q o (by omega) bt'
          exact ⟨fun i hi => q i (by omega), by omega⟩
  exact main c 0 (N + 1) 0 (by omega) (by omega) (by omega) (fun d => ⟨fun _ i hi => by omega, fun _ => by omega⟩)
theorem eMost {N : Nat} (hN : 100 < N) {P : PB} {mv : Nat} {c s : Nat} (hc : c < 6) (hs : s ≤ 9) {h : MH} {x : Nat → Nat} (as : AS P mv h) (px : ∀ i, i < c → gI h 40 i = nI (x i)) (x9 : ∀ i, x i < 10) : ∃ l, f_Asked_mostBeside N (nI c) (nI s) h = some (nI l, h) ∧ l ≤ 9 ∧ ∀ d, d ≤ 9 → (d ≤ l ↔ ∀ o, o < c → pN P c o = true → d ≤ x o + s) := by
  obtain ⟨p1, p2, p3, p4, p5, p6, -⟩ := id as
  obtain ⟨st, st1, st2, st3⟩ := p6 c hc
  have main : ∀ (e o f l : Nat), o + e = c → e < f → l ≤ 9 → (∀ d, d ≤ 9 → (d ≤ l ↔ ∀ i, i < o → pN P c i = true → d ≤ x i + s)) → ∃ w, L_Asked_mostBeside N f (nI c) (nI s) (nI l) (nI o) h = some (nI w, h) ∧ w ≤ 9 ∧ ∀ d, d ≤ 9 → (d ≤ w ↔ ∀ i, i < c → pN P c i = true → d ≤ x i + s) := by
    intro e
    induction e with
    | zero =>
      intro o f l he hf hl hq
      obtain ⟨f, rfl⟩ : ∃ z, f = z + 1 := ⟨f - 1, by omega⟩
      have ec : o = c := by omega
      rw [ec] at hq ⊢
      refine ⟨l, ?_, hl, hq⟩
      show F_Asked_mostBeside_6 N (L_Asked_mostBeside N f) _ _ _ (nI c) h = _
      unfold F_Asked_mostBeside_6
      rw [if_pos (by rw [nN_le (by omega) (by omega)]; omega)]
    | succ e ih =>
      intro o f l he hf hl hq
      obtain ⟨f, rfl⟩ : ∃ z, f = z + 1 := ⟨f - 1, by omega⟩
      show ∃ w, F_Asked_mostBeside_6 N (L_Asked_mostBeside N f) _ _ _ (nI o) h = _ ∧ _
      unfold F_Asked_mostBeside_6
      have bt : ((nI st >>> (nI o &&& 31)) &&& 1 = 0) = (pN P c o = false) := by rw [← st3 o (by omega)]; exact propext (sset_d ⟨st, st1⟩ ⟨o, by omega⟩)
      rw [if_neg (by rw [nN_le (by omega) (by omega)]; omega), if_pos (by rw [inB_nI (by omega)]; exact hc), iN_nI (show c < 2147483648 by omega), st2, show nI o + 1 = nI (o + 1) from nN_add o 1]
      simp only [bt]
      by_cases b : pN P c o = false
      · rw [if_pos b]
        refine ih (o + 1) f l (by omega) (by omega) hl (fun d hd => ?_)
        rw [hq d hd]
        constructor
        · intro q i hi hn
          by_cases z : i = o
          · rw [z, b] at hn; cases hn
          · exact q i (by omega) hn
        · intro q i hi; exact q i (by omega)
      · rw [if_neg b, if_pos (by rw [inB_nI (by omega)]; omega), iN_nI (by omega), px o (by omega), nN_add]
        have bt' : pN P c o = true := by cases z : pN P c o; exact absurd z b; rfl
        have xo := x9 o
        have mne : f_Math_min_II N (nI l) (nI (x o + s)) h = some (nI (min l (x o + s)), h) := by
          unfold f_Math_min_II
          have e1 : (nI (x o + s) < nI l) = (x o + s < l) := nN_lt (by omega) (by omega)
          simp only [e1]
          by_cases q : x o + s < l
          · rw [if_pos q, Nat.min_eq_right (by omega)]
          · rw [if_neg q, Nat.min_eq_left (by omega)]
        rw [mne, bnd_some]
        refine ih (o + 1) f _ (by omega) (by omega) (by omega) (fun d hd => ?_)
        rw [Nat.le_min, hq d hd]
        constructor
        · rintro ⟨q1, q2⟩ i hi hn
          by_cases z : i = o
          · rw [z]; exact q2
          · exact q1 i (by omega) hn
        · intro q
          exact ⟨fun i hi => q i (by omega), q o (by omega) bt'⟩
  exact main c 0 (N + 1) 9 (by omega) (by omega) (by omega) (fun d hd => ⟨fun _ i hi => by omega, fun _ => hd⟩)
