/-! LAND: names on both sides -/
theorem nvf_inj {B : Nat → Nat} {a b : Nat} : ∀ k1 k2, (∀ j, j < k1 → 97 ≤ B (a + j) ∧ B (a + j) < 128) → (∀ j, j < k2 → 97 ≤ B (b + j) ∧ B (b + j) < 128) → nvf B a k1 = nvf B b k2 → k1 = k2 ∧ ∀ j, j < k1 → B (a + j) = B (b + j)
  | 0, 0, _, _, _ => ⟨rfl, fun j hj => absurd hj (Nat.not_lt_zero _)⟩
  | 0, k + 1, _, h2, e => by
    have := h2 k (by omega)
    have e' : 0 = 256 * nvf B b k + B (b + k) := e
    omega
  | k + 1, 0, h1, _, e => by
    have := h1 k (by omega)
    have e' : 256 * nvf B a k + B (a + k) = 0 := e
    omega
  | k1 + 1, k2 + 1, h1, h2, e => by
    have p := h1 k1 (by omega)
    have q := h2 k2 (by omega)
    have e' : 256 * nvf B a k1 + B (a + k1) = 256 * nvf B b k2 + B (b + k2) := e
    have e1 : nvf B a k1 = nvf B b k2 := by omega
    have e2 : B (a + k1) = B (b + k2) := by omega
    obtain ⟨r1, r2⟩ := nvf_inj k1 k2 (fun j hj => h1 j (by omega)) (fun j hj => h2 j (by omega)) e1
    refine ⟨by omega, fun j hj => ?_⟩
    by_cases z : j = k1
    · rw [z, e2, r1]
    · exact r2 j (by omega)
theorem nvf_congr {B : Nat → Nat} {a b : Nat} : ∀ k, (∀ j, j < k → B (a + j) = B (b + j)) → nvf B a k = nvf B b k
  | 0, _ => rfl
  | k + 1, h => by
    show 256 * nvf B a k + B (a + k) = 256 * nvf B b k + B (b + k)
    rw [nvf_congr k (fun j hj => h j (by omega)), h k (by omega)]
def NV (B : Nat → Nat) (ST SP : Nat → Nat) (i : Nat) : Nat := nvf B (ST i) (SP i - ST i)
def NRi (n : Nat) (B : Nat → Nat) (hS : MH) (ST SP : Nat → Nat) (i : Nat) : Prop := gI hS 12 i = nI (ST i) ∧ gI hS 13 i = nI (SP i) ∧ ST i < SP i ∧ SP i ≤ n ∧ SP i ≤ ST i + 8 ∧ ∀ j, ST i ≤ j → j < SP i → 97 ≤ B j ∧ B j < 128
def NRs (B : Nat → Nat) (hS hM : MH) (ST SP : Nat → Nat) (i s : Nat) : Prop := gI hS 14 i = gI hM 76 s ∧ gI hS 15 i = gI hM 77 s ∧ gJ hM 74 s = nJ (NV B ST SP i)
def NRm (B : Nat → Nat) (hS hM : MH) (ST SP : Nat → Nat) (i m : Nat) : Prop := gI hS 15 i = 0 ∧ gI hS 14 i = nI m ∧ gJ hM 75 m = nJ (NV B ST SP i)
def NR (n : Nat) (B : Nat → Nat) (hS hM : MH) (S ns nm nc : Nat) (ST SP : Nat → Nat) : Prop :=
  (gI hS 11 4 = nI S ∧ S = ns + nm ∧ gI hM 68 28 = nI ns ∧ gI hM 68 30 = nI nm ∧ ns ≤ nc ∧ nc ≤ 6 ∧ nm ≤ 8) ∧
  (∀ i, i < S → NRi n B hS ST SP i) ∧
  (∀ i, i < S → (∃ s, s < ns ∧ NRs B hS hM ST SP i s) ∨ (∃ m, m < nm ∧ NRm B hS hM ST SP i m)) ∧
  (∀ s, s < ns → ∃ i, i < S ∧ NRs B hS hM ST SP i s) ∧ (∀ m, m < nm → ∃ i, i < S ∧ NRm B hS hM ST SP i m) ∧
  (∀ i j, i < S → j < S → NV B ST SP i = NV B ST SP j → i = j) ∧
  (∀ s, s < ns → ∃ f c, gI hM 76 s = nI f ∧ gI hM 77 s = nI c ∧ 1 ≤ c ∧ f + c ≤ nc)
theorem NV_lt {n : Nat} {B : Nat → Nat} {hS : MH} {ST SP : Nat → Nat} {i : Nat} (h : NRi n B hS ST SP i) : NV B ST SP i < 9223372036854775808 := by
  obtain ⟨-, -, a, b, c, d⟩ := h
  unfold NV
  obtain ⟨k, hk⟩ : ∃ k, SP i - ST i = k + 1 := ⟨SP i - ST i - 1, by omega⟩
  rw [hk]
  have l := nvf_lt (B := B) (st := ST i) k (fun j hj => (d _ (by omega) (by omega)).2)
  have p : 256 ^ k ≤ 256 ^ 7 := Nat.pow_le_pow_right (by omega) (by omega)
  have : (256 : Nat) ^ 7 = 72057594037927936 := by decide
  omega
theorem eAlike {N n : Nat} (hN : 100 < N) {B : Nat → Nat} {h : MH} (x : CX n B h) {a b k : Nat} (ha : a + k ≤ n) (hb : b + k ≤ n) (hk : k ≤ 8) : ((∀ j, j < k → B (a + j) = B (b + j)) → f_Names_areAlike N (nI a) (nI b) (nI k) h = some (1, h)) ∧ (¬ (∀ j, j < k → B (a + j) = B (b + j)) → f_Names_areAlike N (nI a) (nI b) (nI k) h = some (0, h)) := by
  have n6 := x.1
  have main : ∀ (d i f : Nat), i + d = k → d < f → (∀ j, j < i → B (a + j) = B (b + j)) → ((∀ j, j < k → B (a + j) = B (b + j)) → L_Names_areAlike N f (nI a) (nI b) (nI k) (nI i) h = some (1, h)) ∧ (¬ (∀ j, j < k → B (a + j) = B (b + j)) → L_Names_areAlike N f (nI a) (nI b) (nI k) (nI i) h = some (0, h)) := by
    intro d
    induction d with
    | zero =>
      intro i f hd hf ho
      obtain ⟨f, rfl⟩ : ∃ z, f = z + 1 := ⟨f - 1, by omega⟩
      have e : L_Names_areAlike N (f + 1) (nI a) (nI b) (nI k) (nI i) h = some (1, h) := by
        show F_Names_areAlike_3 N (L_Names_areAlike N f) (nI a) (nI b) (nI k) (nI i) h = _
        unfold F_Names_areAlike_3
        rw [if_pos (by rw [nN_le (by omega) (by omega)]; omega)]
      exact ⟨fun _ => e, fun q => absurd (fun j hj => ho j (by omega)) q⟩
    | succ d ih =>
      intro i f hd hf ho
      obtain ⟨f, rfl⟩ : ∃ z, f = z + 1 := ⟨f - 1, by omega⟩
      obtain ⟨b1, b2⟩ := x.2.2 (a + i) (by omega)
      obtain ⟨c1, c2⟩ := x.2.2 (b + i) (by omega)
      have e : L_Names_areAlike N (f + 1) (nI a) (nI b) (nI k) (nI i) h = if B (a + i) = B (b + i) then L_Names_areAlike N f (nI a) (nI b) (nI k) (nI (i + 1)) h else some (0, h) := by
        show F_Names_areAlike_3 N (L_Names_areAlike N f) (nI a) (nI b) (nI k) (nI i) h = _
        unfold F_Names_areAlike_3
        rw [if_neg (by rw [nN_le (by omega) (by omega)]; omega), nN_add, nN_add, if_pos (by rw [inB_nI (by omega)]; omega), if_pos (by rw [inB_nI (by omega)]; omega), iN_nI (by omega), iN_nI (by omega), b2, c2, show nI i + 1 = nI (i + 1) from nN_add i 1]
        by_cases z : B (a + i) = B (b + i)
        · rw [if_pos ((sB_inj b1 c1).mpr z), if_pos z]
        · rw [if_neg (fun w => z ((sB_inj b1 c1).mp w)), if_neg z]
      rw [e]
      by_cases z : B (a + i) = B (b + i)
      · rw [if_pos z]
        exact ih (i + 1) f (by omega) (by omega) (fun j hj => by
          by_cases v : j = i
          · rw [v]; exact z
          · exact ho j (by omega))
      · rw [if_neg z]
        exact ⟨fun q => absurd (q i (by omega)) z, fun _ => rfl⟩
  exact main k 0 (N + 1) (by omega) (by omega) (fun j hj => absurd hj (Nat.not_lt_zero _))
theorem eFind {N n : Nat} (hN : 1000 < N) {B : Nat → Nat} {h : MH} (x : CX n B h) {t : Nat × Nat × Nat × Nat} (g : TG B n t) (z : nmd B t) {S : Nat} {ST SP : Nat → Nat} (hS : S ≤ 14) (e4 : gI h 11 4 = nI S) (hi : ∀ i, i < S → NRi n B h ST SP i) : (f_Names_find N (nI t.2.1) (nI t.2.2.1) h = some (-1, h) ∧ ∀ i, i < S → NV B ST SP i ≠ nv B t) ∨ (∃ i, i < S ∧ f_Names_find N (nI t.2.1) (nI t.2.2.1) h = some (nI i, h) ∧ NV B ST SP i = nv B t) := by
  have n6 := x.1
  obtain ⟨g3, g4⟩ := g.2.2.1 (by rw [z.1]; decide)
  obtain ⟨nl, nc⟩ := nv_lt (fun k hk => (x.2.2 k hk).1) g z
  have z2 := z.2.1
  have main : ∀ (d i f : Nat), i + d = S → d < f → (∀ j, j < i → NV B ST SP j ≠ nv B t) → (L_Names_find N f (nI t.2.1) (nI t.2.2.1) (nI i) h = some (-1, h) ∧ ∀ i, i < S → NV B ST SP i ≠ nv B t) ∨ (∃ j, j < S ∧ L_Names_find N f (nI t.2.1) (nI t.2.2.1) (nI i) h = some (nI j, h) ∧ NV B ST SP j = nv B t) := by
    intro d
    induction d with
    | zero =>
      intro i f hd hf ho
      obtain ⟨f, rfl⟩ : ∃ z, f = z + 1 := ⟨f - 1, by omega⟩
      refine .inl ⟨?_, fun j hj => ho j (by omega)⟩
      show F_Names_find_3 N (L_Names_find N f) _ _ (nI i) h = _
      unfold F_Names_find_3
      rw [e4, if_pos (by rw [nN_le (by omega) (by omega)]; omega)]
    | succ d ih =>
      intro i f hd hf ho
      obtain ⟨f, rfl⟩ : ∃ z, f = z + 1 := ⟨f - 1, by omega⟩
      obtain ⟨a1, a2, a3, a4, a5, a6⟩ := hi i (by omega)
      have ib : inB (nI i) 14 = true := by rw [inB_nI (by omega)]; omega
      have iff : NV B ST SP i = nv B t ↔ SP i - ST i = t.2.2.1 - t.2.1 ∧ ∀ j, j < t.2.2.1 - t.2.1 → B (ST i + j) = B (t.2.1 + j) := by
        constructor
        · intro q
          obtain ⟨r1, r2⟩ := nvf_inj (SP i - ST i) (t.2.2.1 - t.2.1) (fun j hj => a6 _ (by omega) (by omega)) nc q
          exact ⟨r1, fun j hj => r2 j (by omega)⟩
        · rintro ⟨r1, r2⟩
          unfold NV nv
          rw [r1]
          exact nvf_congr _ r2
      have next : NV B ST SP i ≠ nv B t → (L_Names_find N f (nI t.2.1) (nI t.2.2.1) (nI (i + 1)) h = some (-1, h) ∧ ∀ i, i < S → NV B ST SP i ≠ nv B t) ∨ (∃ j, j < S ∧ L_Names_find N f (nI t.2.1) (nI t.2.2.1) (nI (i + 1)) h = some (nI j, h) ∧ NV B ST SP j = nv B t) := fun q => ih (i + 1) f (by omega) (by omega) (fun j hj => by
        by_cases v : j = i
        · rw [v]; exact q
        · exact ho j (by omega))
      have e : L_Names_find N (f + 1) (nI t.2.1) (nI t.2.2.1) (nI i) h = F_Names_find_3 N (L_Names_find N f) (nI t.2.1) (nI t.2.2.1) (nI i) h := rfl
      rw [e]
      unfold F_Names_find_3
      rw [e4, if_neg (by rw [nN_le (by omega) (by omega)]; omega), if_pos ib, if_pos ib, iN_nI (by omega), a1, a2, nN_sub (by omega), nN_sub g3, show nI i + 1 = nI (i + 1) from nN_add i 1]
      simp only [nN_inj (show SP i - ST i < 2147483648 by omega) (show t.2.2.1 - t.2.1 < 2147483648 by omega)]
      by_cases y : SP i - ST i = t.2.2.1 - t.2.1
      case neg =>
        rw [if_neg y]
        exact next (fun q => y (iff.mp q).1)
      rw [if_pos y, if_pos ib]
      obtain ⟨l1, l2⟩ := eAlike (N := N) (by omega) x (a := ST i) (b := t.2.1) (k := t.2.2.1 - t.2.1) (by omega) (by omega) (by omega)
      by_cases w : ∀ j, j < t.2.2.1 - t.2.1 → B (ST i + j) = B (t.2.1 + j)
      · rw [l1 w, bnd_some]
        dsimp only
        rw [if_neg (by decide)]
        exact .inr ⟨i, by omega, rfl, iff.mpr ⟨y, w⟩⟩
      · rw [l2 w, bnd_some]
        dsimp only
        rw [if_pos rfl]
        exact next (fun q => w (iff.mp q).2)
  exact main S 0 (N + 1) (by omega) (by omega) (fun j hj => absurd hj (Nat.not_lt_zero _))
theorem eSheetOf {N : Nat} (hN : 100 < N) {h : MH} {ns : Nat} (hs : ns ≤ 6) (e : gI h 68 28 = nI ns) (v : Int64) : (f_M_sheetOf N v h = some (-1, h) ∧ ∀ s, s < ns → gJ h 74 s ≠ v) ∨ (∃ s, s < ns ∧ f_M_sheetOf N v h = some (nI s, h) ∧ gJ h 74 s = v) := by
  have main : ∀ (d i f : Nat), i + d = ns → d < f → (∀ j, j < i → gJ h 74 j ≠ v) → (L_M_sheetOf N f v (nI i) h = some (-1, h) ∧ ∀ s, s < ns → gJ h 74 s ≠ v) ∨ (∃ s, s < ns ∧ L_M_sheetOf N f v (nI i) h = some (nI s, h) ∧ gJ h 74 s = v) := by
    intro d
    induction d with
    | zero =>
      intro i f hd hf ho
      obtain ⟨f, rfl⟩ : ∃ z, f = z + 1 := ⟨f - 1, by omega⟩
      refine .inl ⟨?_, fun j hj => ho j (by omega)⟩
      show F_M_sheetOf_2 N (L_M_sheetOf N f) v (nI i) h = _
      unfold F_M_sheetOf_2
      rw [e, if_pos (by rw [nN_le (by omega) (by omega)]; omega)]
    | succ d ih =>
      intro i f hd hf ho
      obtain ⟨f, rfl⟩ : ∃ z, f = z + 1 := ⟨f - 1, by omega⟩
      have q : L_M_sheetOf N (f + 1) v (nI i) h = if gJ h 74 i = v then some (nI i, h) else L_M_sheetOf N f v (nI (i + 1)) h := by
        show F_M_sheetOf_2 N (L_M_sheetOf N f) v (nI i) h = _
        unfold F_M_sheetOf_2
        rw [e, if_neg (by rw [nN_le (by omega) (by omega)]; omega), if_pos (by rw [inB_nI (by omega)]; omega), iN_nI (by omega), show nI i + 1 = nI (i + 1) from nN_add i 1]
        simp only [cmp0]
      rw [q]
      by_cases z : gJ h 74 i = v
      · rw [if_pos z]
        exact .inr ⟨i, by omega, rfl, z⟩
      · rw [if_neg z]
        exact ih (i + 1) f (by omega) (by omega) (fun j hj => by
          by_cases w : j = i
          · rw [w]; exact z
          · exact ho j (by omega))
  exact main ns 0 (N + 1) (by omega) (by omega) (fun j hj => absurd hj (Nat.not_lt_zero _))
theorem eMarkOf {N : Nat} (hN : 100 < N) {h : MH} {nm : Nat} (hs : nm ≤ 8) (e : gI h 68 30 = nI nm) (v : Int64) : (f_M_markOf N v h = some (-1, h) ∧ ∀ s, s < nm → gJ h 75 s ≠ v) ∨ (∃ s, s < nm ∧ f_M_markOf N v h = some (nI s, h) ∧ gJ h 75 s = v) := by
  have main : ∀ (d i f : Nat), i + d = nm → d < f → (∀ j, j < i → gJ h 75 j ≠ v) → (L_M_markOf N f v (nI i) h = some (-1, h) ∧ ∀ s, s < nm → gJ h 75 s ≠ v) ∨ (∃ s, s < nm ∧ L_M_markOf N f v (nI i) h = some (nI s, h) ∧ gJ h 75 s = v) := by
    intro d
    induction d with
    | zero =>
      intro i f hd hf ho
      obtain ⟨f, rfl⟩ : ∃ z, f = z + 1 := ⟨f - 1, by omega⟩
      refine .inl ⟨?_, fun j hj => ho j (by omega)⟩
      show F_M_markOf_2 N (L_M_markOf N f) v (nI i) h = _
      unfold F_M_markOf_2
      rw [e, if_pos (by rw [nN_le (by omega) (by omega)]; omega)]
    | succ d ih =>
      intro i f hd hf ho
      obtain ⟨f, rfl⟩ : ∃ z, f = z + 1 := ⟨f - 1, by omega⟩
      have q : L_M_markOf N (f + 1) v (nI i) h = if gJ h 75 i = v then some (nI i, h) else L_M_markOf N f v (nI (i + 1)) h := by
        show F_M_markOf_2 N (L_M_markOf N f) v (nI i) h = _
        unfold F_M_markOf_2
        rw [e, if_neg (by rw [nN_le (by omega) (by omega)]; omega), if_pos (by rw [inB_nI (by omega)]; omega), iN_nI (by omega), show nI i + 1 = nI (i + 1) from nN_add i 1]
        simp only [cmp0]
      rw [q]
      by_cases z : gJ h 75 i = v
      · rw [if_pos z]
        exact .inr ⟨i, by omega, rfl, z⟩
      · rw [if_neg z]
        exact ih (i + 1) f (by omega) (by omega) (fun j hj => by
          by_cases w : j = i
          · rw [w]; exact z
          · exact ho j (by omega))
  exact main nm 0 (N + 1) (by omega) (by omega) (fun j hj => absurd hj (Nat.not_lt_zero _))
/-- what a name is: new, a sheet's, a mark's -/
theorem nameB {N n : Nat} (hN : 2000 < N) {B : Nat → Nat} {hS hM : MH} {t : Nat × Nat × Nat × Nat} (l : LV n B hS hM t) {S ns nm nc : Nat} {ST SP : Nat → Nat} (r : NR n B hS hM S ns nm nc ST SP) (z : nmd B t) :
    (f_Names_find N (nI t.2.1) (nI t.2.2.1) hS = some (-1, hS) ∧ f_M_sheetOf N (nJ (nv B t)) hM = some (-1, hM) ∧ f_M_markOf N (nJ (nv B t)) hM = some (-1, hM) ∧ ∀ i, i < S → NV B ST SP i ≠ nv B t) ∨
    (∃ i s f c, i < S ∧ s < ns ∧ f_Names_find N (nI t.2.1) (nI t.2.2.1) hS = some (nI i, hS) ∧ f_M_sheetOf N (nJ (nv B t)) hM = some (nI s, hM) ∧ f_M_markOf N (nJ (nv B t)) hM = some (-1, hM) ∧ gI hS 14 i = nI f ∧ gI hS 15 i = nI c ∧ gI hM 76 s = nI f ∧ gI hM 77 s = nI c ∧ 1 ≤ c ∧ f + c ≤ nc) ∨
    (∃ i m, i < S ∧ m < nm ∧ f_Names_find N (nI t.2.1) (nI t.2.2.1) hS = some (nI i, hS) ∧ f_M_sheetOf N (nJ (nv B t)) hM = some (-1, hM) ∧ f_M_markOf N (nJ (nv B t)) hM = some (nI m, hM) ∧ gI hS 15 i = 0 ∧ gI hS 14 i = nI m) := by
  obtain ⟨x, y, g, c, m, -⟩ := id l
  obtain ⟨⟨r1, r2, r3, r4, r5, r6, r7⟩, ri, rk, rs, rm, ru, rc⟩ := r
  obtain ⟨nl, -⟩ := nv_lt (fun k hk => (x.2.2 k hk).1) g z
  have hf := eFind (N := N) (by omega) x g z (by omega) r1 ri
  have hs := eSheetOf (N := N) (by omega) (show ns ≤ 6 by omega) r3 (nJ (nv B t))
  have hm := eMarkOf (N := N) (by omega) r7 r4 (nJ (nv B t))
  -- a sheet, or a mark, of this name
  have ss : ∀ s, s < ns → gJ hM 74 s = nJ (nv B t) → ∃ i, i < S ∧ NRs B hS hM ST SP i s ∧ NV B ST SP i = nv B t := fun s h1 h2 => by
    obtain ⟨i, i1, i2⟩ := rs s h1
    refine ⟨i, i1, i2, ?_⟩
    have := i2.2.2
    rw [h2, nJ_inj nl (NV_lt (ri i i1))] at this
    exact this.symm
  have mm : ∀ s, s < nm → gJ hM 75 s = nJ (nv B t) → ∃ i, i < S ∧ NRm B hS hM ST SP i s ∧ NV B ST SP i = nv B t := fun s h1 h2 => by
    obtain ⟨i, i1, i2⟩ := rm s h1
    refine ⟨i, i1, i2, ?_⟩
    have := i2.2.2
    rw [h2, nJ_inj nl (NV_lt (ri i i1))] at this
    exact this.symm
  have no : ∀ i s q, s < ns → NRs B hS hM ST SP i s → NRm B hS hM ST SP i q → False := fun i s q h1 h2 h3 => by
    obtain ⟨f, c, -, c2, c3, c4⟩ := rc s h1
    have := h2.2.1
    rw [h3.1, c2, show (0 : Int32) = nI 0 from rfl, nN_inj (by omega) (by omega)] at this
    omega
  rcases hf with ⟨f1, f2⟩ | ⟨i, i1, f1, f2⟩
  · refine .inl ⟨f1, ?_, ?_, f2⟩
    · rcases hs with ⟨h1, -⟩ | ⟨s, s1, -, s3⟩
      · exact h1
      · obtain ⟨i, i1, -, i3⟩ := ss s s1 s3
        exact absurd i3 (f2 i i1)
    · rcases hm with ⟨h1, -⟩ | ⟨s, s1, -, s3⟩
      · exact h1
      · obtain ⟨i, i1, -, i3⟩ := mm s s1 s3
        exact absurd i3 (f2 i i1)
  · rcases rk i i1 with ⟨s', s1, s2⟩ | ⟨m', m1, m2⟩
    · right; left
      rcases hs with ⟨-, h2⟩ | ⟨s, t1, t2, t3⟩
      · exact absurd (by rw [s2.2.2, f2]) (h2 s' s1)
      · obtain ⟨j, j1, j2, j3⟩ := ss s t1 t3
        have ij : j = i := ru j i j1 i1 (by rw [j3, f2])
        subst ij
        obtain ⟨f, c, c1, c2, c3, c4⟩ := rc s t1
        refine ⟨j, s, f, c, i1, t1, f1, t2, ?_, by rw [j2.1, c1], by rw [j2.2.1, c2], c1, c2, c3, c4⟩
        rcases hm with ⟨h1, -⟩ | ⟨q, q1, -, q3⟩
        · exact h1
        · obtain ⟨k, k1, k2, k3⟩ := mm q q1 q3
          have : k = j := ru k j k1 i1 (by rw [k3, f2])
          subst this
          exact absurd k2 (fun w => no k s q t1 j2 w)
    · right; right
      rcases hm with ⟨-, h2⟩ | ⟨s, t1, t2, t3⟩
      · exact absurd (by rw [m2.2.2, f2]) (h2 m' m1)
      · obtain ⟨j, j1, j2, j3⟩ := mm s t1 t3
        have ij : j = i := ru j i j1 i1 (by rw [j3, f2])
        subst ij
        refine ⟨j, s, i1, t1, f1, ?_, t2, j2.1, j2.2.1⟩
        rcases hs with ⟨h1, -⟩ | ⟨q, q1, -, q3⟩
        · exact h1
        · obtain ⟨k, k1, k2, k3⟩ := ss q q1 q3
          have : k = j := ru k j k1 i1 (by rw [k3, f2])
          subst this
          exact absurd j2 (fun w => no k q s q1 k2 w)
