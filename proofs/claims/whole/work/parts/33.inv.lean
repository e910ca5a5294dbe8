/-! FRAMES, and what holds between the class's cells and the reference's -/
def Fr (W : Nat → Nat → Bool) (h h' : MH) : Prop := h'.1 = h.1 ∧ ∀ c k, W c k = false → gI h' c k = gI h c k ∧ gJ h' c k = gJ h c k ∧ gR h' c k = gR h c k
theorem Fr.i {W : Nat → Nat → Bool} {h h' : MH} (f : Fr W h h') (c k : Nat) (w : W c k = false) : gI h' c k = gI h c k := (f.2 c k w).1
theorem Fr.j {W : Nat → Nat → Bool} {h h' : MH} (f : Fr W h h') (c k : Nat) (w : W c k = false) : gJ h' c k = gJ h c k := (f.2 c k w).2.1
theorem Fr.r {W : Nat → Nat → Bool} {h h' : MH} (f : Fr W h h') (c k : Nat) (w : W c k = false) : gR h' c k = gR h c k := (f.2 c k w).2.2
theorem Fr.rfl {W : Nat → Nat → Bool} {h : MH} : Fr W h h := ⟨Eq.refl _, fun _ _ _ => ⟨Eq.refl _, Eq.refl _, Eq.refl _⟩⟩
theorem Fr.trans {W : Nat → Nat → Bool} {h h' h'' : MH} (a : Fr W h h') (b : Fr W h' h'') : Fr W h h'' := ⟨b.1.trans a.1, fun c k w => ⟨(b.i c k w).trans (a.i c k w), (b.j c k w).trans (a.j c k w), (b.r c k w).trans (a.r c k w)⟩⟩
theorem Fr.mono {W W' : Nat → Nat → Bool} {h h' : MH} (a : Fr W h h') (hw : ∀ c k, W' c k = false → W c k = false) : Fr W' h h' := ⟨a.1, fun c k w => a.2 c k (hw c k w)⟩
theorem Fr.sI {W : Nat → Nat → Bool} {h h' : MH} (a : Fr W h h') (c k : Nat) (v : Int32) (w : W c k = true) : Fr W h (sI h' c k v) := by
  refine a.trans ⟨Eq.refl _, fun c' k' w' => ⟨?_, Eq.refl _, Eq.refl _⟩⟩
  rw [gI_sI]
  rw [if_neg]
  rintro ⟨rfl, rfl⟩
  rw [w] at w'; cases w'
theorem Fr.sJ {W : Nat → Nat → Bool} {h h' : MH} (a : Fr W h h') (c k : Nat) (v : Int64) (w : W c k = true) : Fr W h (sJ h' c k v) := by
  refine a.trans ⟨Eq.refl _, fun c' k' w' => ⟨Eq.refl _, ?_, Eq.refl _⟩⟩
  rw [gJ_sJ]
  rw [if_neg]
  rintro ⟨rfl, rfl⟩
  rw [w] at w'; cases w'
theorem Fr.sR {W : Nat → Nat → Bool} {h h' : MH} (a : Fr W h h') (c k : Nat) (v : Nat) (w : W c k = true) : Fr W h (sR h' c k v) := by
  refine a.trans ⟨Eq.refl _, fun c' k' w' => ⟨Eq.refl _, Eq.refl _, ?_⟩⟩
  rw [gR_sR]
  rw [if_neg]
  rintro ⟨rfl, rfl⟩
  rw [w] at w'; cases w'
def wS (c _k : Nat) : Bool := decide (c < 68)
def wM (c _k : Nat) : Bool := decide (68 ≤ c)
/-- what a call may write and nobody keeps: of the class, of the reference -/
def vS (c k : Nat) : Bool := (25 ≤ c && c ≤ 28) || (33 ≤ c && c ≤ 40) || (c == 41 && 8 ≤ k) || (42 ≤ c && c ≤ 45) || (47 ≤ c && c ≤ 49) || c == 51 || c == 53
def vM (c k : Nat) : Bool := (c == 68 && ((60 ≤ k && k ≤ 65) || k == 67)) || (103 ≤ c && c ≤ 109) || c == 113 || c == 115
def IvA (hS hM : MH) : Prop :=
  gI hS 1 12 = gI hM 68 0 ∧ gJ hS 1 9 = gJ hM 68 1 ∧ gJ hS 1 10 = gJ hM 68 2 ∧ gI hS 1 13 = gI hM 68 14 ∧ gI hS 1 14 = gI hM 68 15 ∧
  (gI hS 1 15 = gI hM 68 66 ∧ ∃ s, s ≤ 9 ∧ gI hM 68 66 = nI s) ∧ (gI hS 1 16 = gI hM 68 79 ∧ (gI hM 68 79 = -1 ∨ 0 ≤ gI hM 68 79) ∧ (0 ≤ gI hM 68 79 → gI hS 1 17 = gI hM 68 80)) ∧
  gI hS 16 11 = gI hM 68 51 ∧ gI hS 16 10 = gI hM 68 50
def IvL (hS hM : MH) (G n m : Nat) : Prop :=
  (n ≤ 6 ∧ m ≤ 8) ∧ (gI hS G 0 = nI n ∧ gI hM 68 32 = nI n) ∧ (gI hS G 1 = nI m ∧ gI hM 68 33 = nI m) ∧
  (∀ k, k < 48 → gI hS (G + 1) k = gI hM 88 k ∧ (-9 ≤ (gI hM 88 k).toInt ∧ (gI hM 88 k).toInt ≤ 9)) ∧
  (∀ c k, n ≤ c → c < 6 → k < 8 → gI hM 88 (8 * c + k) = 0) ∧
  (∀ a, a < 6 → ∃ s, s < 64 ∧ gI hS (G + 2) a = nI s ∧ ∀ b, b < 6 → gI hM 89 (6 * a + b) = if s.testBit b = true then 1 else 0) ∧
  (∀ a b, a < 6 → b < 6 → gI hM 89 (6 * a + b) = gI hM 89 (6 * b + a)) ∧ (∀ a, a < 6 → gI hM 89 (6 * a + a) = 0) ∧ (∀ a b, n ≤ a → a < 6 → b < 6 → gI hM 89 (6 * a + b) = 0) ∧
  (∀ c, c < n → gI hS (G + 3) c = gI hM 85 c ∧ gI hS (G + 4) c = gI hM 86 c ∧ gI hS (G + 5) c = gI hM 87 c ∧ ∃ a b d, a ≤ 999 ∧ b ≤ 100 ∧ d ≤ 100 ∧ gI hM 85 c = nI a ∧ gI hM 86 c = nI b ∧ gI hM 87 c = nI d)
def IvR (hS hM : MH) (m r o : Nat) : Prop :=
  (r ≤ 160 ∧ o ≤ 20) ∧ (gI hS 16 5 = nI r ∧ gI hM 68 48 = nI r) ∧ (gI hS 16 9 = nI o ∧ gI hM 68 49 = nI o) ∧
  (∀ k, k < r → gI hS 17 k = gI hM 95 k ∧ gI hS 18 k = gI hM 96 k ∧ gI hS 19 k = gI hM 97 k ∧ gI hS 20 k = gI hM 98 k ∧ gI hS 21 k = gI hM 99 k ∧
    (∃ y, y < 20 ∧ gI hM 96 k = nI y) ∧ (-2000 ≤ (gI hM 97 k).toInt ∧ (gI hM 97 k).toInt ≤ 2000) ∧ (∃ y, y ≤ 200 ∧ gI hM 98 k = nI y)) ∧
  (∀ k, k < o → gI hS 22 k = gI hM 100 k ∧ gI hS 23 k = gI hM 101 k ∧ gI hS 24 k = gI hM 102 k ∧ (∃ y, y < 20 ∧ gI hM 101 k = nI y) ∧ (-2000 ≤ (gI hM 102 k).toInt ∧ (gI hM 102 k).toInt ≤ 2000)) ∧ m ≤ 8
def IvS (hS hM : MH) (s : Nat) : Prop :=
  s ≤ 30 ∧ (gI hS 29 3 = nI s ∧ gI hM 68 75 = nI s) ∧ (∀ k, k < s → gI hS 30 k = gI hM 110 k ∧ gI hS 31 k = gI hM 111 k ∧ gI hS 32 k = gI hM 112 k ∧ (∃ y, y ≤ 99 ∧ gI hM 112 k = nI y))
def IvT (hS hM : MH) (t : Nat) : Prop :=
  gR hS 2 t = 60 + 2 * t ∧ (∃ s, s < 4 ∧ gI hS (60 + 2 * t) 1 = nI s ∧ gI hM 69 t = nI s) ∧ gI hS (60 + 2 * t) 2 = gI hM 70 t ∧
  (gI hM 70 t = -1 ∨ ∃ z, z ≤ 60 ∧ gI hM 70 t = nI z ∧ ∀ k, k < z → gJ hS (60 + 2 * t + 1) k = gJ hM 71 (60 * t + k))
def IvP (hS hM : MH) (t : Nat) : Prop :=
  t ≤ 600 ∧ gI hS 3 1 = nI t ∧ gI hM 68 8 = nI t ∧ ∀ k, k < t → gI hS 4 k = gI hM 72 k ∧ (-128 ≤ (gI hM 72 k).toInt ∧ (gI hM 72 k).toInt ≤ 127)
def IvF (hS hM : MH) (f : Nat) : Prop :=
  f ≤ 8 ∧ gI hS 50 3 = nI f ∧ gI hM 68 83 = nI f ∧ ∀ k, k < f → gI hS 52 k = gI hM 114 k
/-- rows of j numbers 0 to 9 with a sum of t at least -/
def rch : Nat → Nat → Nat
  | 0, t => if t = 0 then 1 else 0
  | j + 1, t => ((List.range 10).map (fun d => rch j (t - d))).sum
def IvWt (hS : MH) : Prop := ∀ j t, j ≤ 6 → t ≤ 54 → gI hS 46 (55 * j + t) = nI (rch j t)
/-- the table, and the sums before the first cell -/
def IvW (hS : MH) : Prop := IvWt hS ∧ ∀ k, k < 8 → gI hS 41 k = 0
def IvE (hS hM : MH) (G n m : Nat) : Prop := ((G = 5 ∧ gR hS 3 9 = 54) ∨ (G = 54 ∧ gR hS 3 9 = 5)) ∧ gR hS 1 11 = G ∧ IvL hS hM G n m ∧ (∃ r o, IvR hS hM m r o) ∧ ∃ s, IvS hS hM s
def Inv2 (hS hM : MH) : Prop := IvA hS hM ∧ (∃ G n m, IvE hS hM G n m) ∧ (IvT hS hM 0 ∧ IvT hS hM 1 ∧ IvT hS hM 2 ∧ IvT hS hM 3) ∧ (∃ t, IvP hS hM t) ∧ (∃ f, IvF hS hM f) ∧ IvW hS
/-- the calls of both sides, each on its own heap -/
def OK2 {T : Type} (hS hM : MH) (s m : Option (T × MH)) : Prop := ∃ a hS' hM', s = some (a, hS') ∧ m = some (a, hM') ∧ Inv2 hS' hM' ∧ Fr wS hS hS' ∧ Fr wM hM hM'
theorem vS_le {c k : Nat} (h : wS c k = false) : vS c k = false := by
  unfold wS at h; unfold vS; simp at h ⊢; omega
theorem vM_le {c k : Nat} (h : wM c k = false) : vM c k = false := by
  unfold wM at h; unfold vM; simp at h ⊢; omega
theorem Inv_st {hS hM : MH} (h : Inv2 hS hM) (v : Int32) : Inv2 (sI hS 1 12 v) (sI hM 68 0 v) := by
  obtain ⟨⟨a1, a2, a3, a4, a5, a6, a7, a8, a9⟩, ⟨G, n, m, ⟨hG, hr, hL, hR, hK⟩⟩, hT, hP, hF, hW⟩ := h
  refine ⟨⟨rfl, a2, a3, a4, a5, a6, a7, a8, a9⟩, ⟨G, n, m, hG, hr, ?_, hR, hK⟩, hT, hP, hF, hW⟩
  rcases hG with ⟨rfl, -⟩ | ⟨rfl, -⟩
  · exact hL
  · exact hL
theorem Inv_vol {hS hM hS' hM' : MH} (h : Inv2 hS hM) (fS : Fr vS hS hS') (fM : Fr vM hM hM') : Inv2 hS' hM' := by
  obtain ⟨hA, ⟨G, n, m, ⟨hG, hr, hL, ⟨r, o, hR⟩, ⟨s, hK⟩⟩⟩, ⟨t0, t1, t2, t3⟩, ⟨t, hP⟩, ⟨f, hF⟩, hW⟩ := h
  refine ⟨?_, ⟨G, n, m, ?_, ?_, ?_, ⟨r, o, ?_⟩, ⟨s, ?_⟩⟩, ⟨?_, ?_, ?_, ?_⟩, ⟨t, ?_⟩, ⟨f, ?_⟩, ?_⟩
  · unfold IvA at hA ⊢
    rw [fS.i 1 12 rfl, fS.j 1 9 rfl, fS.j 1 10 rfl, fS.i 1 13 rfl, fS.i 1 14 rfl, fS.i 1 15 rfl, fS.i 1 16 rfl, fS.i 1 17 rfl, fS.i 16 11 rfl, fS.i 16 10 rfl, fM.i 68 0 rfl, fM.j 68 1 rfl, fM.j 68 2 rfl, fM.i 68 14 rfl, fM.i 68 15 rfl, fM.i 68 66 rfl, fM.i 68 79 rfl, fM.i 68 80 rfl, fM.i 68 51 rfl, fM.i 68 50 rfl]
    exact hA
  · rw [fS.r 3 9 rfl]; exact hG
  · rw [fS.r 1 11 rfl]; exact hr
  · unfold IvL at hL ⊢
    have e88 : ∀ k, gI hM' 88 k = gI hM 88 k := fun k => fM.i 88 k rfl
    have e89 : ∀ k, gI hM' 89 k = gI hM 89 k := fun k => fM.i 89 k rfl
    have e85 : ∀ k, gI hM' 85 k = gI hM 85 k := fun k => fM.i 85 k rfl
    have e86 : ∀ k, gI hM' 86 k = gI hM 86 k := fun k => fM.i 86 k rfl
    have e87 : ∀ k, gI hM' 87 k = gI hM 87 k := fun k => fM.i 87 k rfl
    rcases hG with ⟨rfl, -⟩ | ⟨rfl, -⟩
    · have d0 : ∀ k, gI hS' 5 k = gI hS 5 k := fun k => fS.i 5 k rfl
      have d1 : ∀ k, gI hS' (5 + 1) k = gI hS (5 + 1) k := fun k => fS.i 6 k rfl
      have d2 : ∀ k, gI hS' (5 + 2) k = gI hS (5 + 2) k := fun k => fS.i 7 k rfl
      have d3 : ∀ k, gI hS' (5 + 3) k = gI hS (5 + 3) k := fun k => fS.i 8 k rfl
      have d4 : ∀ k, gI hS' (5 + 4) k = gI hS (5 + 4) k := fun k => fS.i 9 k rfl
      have d5 : ∀ k, gI hS' (5 + 5) k = gI hS (5 + 5) k := fun k => fS.i 10 k rfl
      simp only [d0, d1, d2, d3, d4, d5, e88, e89, e85, e86, e87, fM.i 68 32 rfl, fM.i 68 33 rfl]
      exact hL
    · have d0 : ∀ k, gI hS' 54 k = gI hS 54 k := fun k => fS.i 54 k rfl
      have d1 : ∀ k, gI hS' (54 + 1) k = gI hS (54 + 1) k := fun k => fS.i 55 k rfl
      have d2 : ∀ k, gI hS' (54 + 2) k = gI hS (54 + 2) k := fun k => fS.i 56 k rfl
      have d3 : ∀ k, gI hS' (54 + 3) k = gI hS (54 + 3) k := fun k => fS.i 57 k rfl
      have d4 : ∀ k, gI hS' (54 + 4) k = gI hS (54 + 4) k := fun k => fS.i 58 k rfl
      have d5 : ∀ k, gI hS' (54 + 5) k = gI hS (54 + 5) k := fun k => fS.i 59 k rfl
      simp only [d0, d1, d2, d3, d4, d5, e88, e89, e85, e86, e87, fM.i 68 32 rfl, fM.i 68 33 rfl]
      exact hL
  · unfold IvR at hR ⊢
    have a17 : ∀ k, gI hS' 17 k = gI hS 17 k := fun k => fS.i 17 k rfl
    have a18 : ∀ k, gI hS' 18 k = gI hS 18 k := fun k => fS.i 18 k rfl
    have a19 : ∀ k, gI hS' 19 k = gI hS 19 k := fun k => fS.i 19 k rfl
    have a20 : ∀ k, gI hS' 20 k = gI hS 20 k := fun k => fS.i 20 k rfl
    have a21 : ∀ k, gI hS' 21 k = gI hS 21 k := fun k => fS.i 21 k rfl
    have a22 : ∀ k, gI hS' 22 k = gI hS 22 k := fun k => fS.i 22 k rfl
    have a23 : ∀ k, gI hS' 23 k = gI hS 23 k := fun k => fS.i 23 k rfl
    have a24 : ∀ k, gI hS' 24 k = gI hS 24 k := fun k => fS.i 24 k rfl
    have b95 : ∀ k, gI hM' 95 k = gI hM 95 k := fun k => fM.i 95 k rfl
    have b96 : ∀ k, gI hM' 96 k = gI hM 96 k := fun k => fM.i 96 k rfl
    have b97 : ∀ k, gI hM' 97 k = gI hM 97 k := fun k => fM.i 97 k rfl
    have b98 : ∀ k, gI hM' 98 k = gI hM 98 k := fun k => fM.i 98 k rfl
    have b99 : ∀ k, gI hM' 99 k = gI hM 99 k := fun k => fM.i 99 k rfl
    have b100 : ∀ k, gI hM' 100 k = gI hM 100 k := fun k => fM.i 100 k rfl
    have b101 : ∀ k, gI hM' 101 k = gI hM 101 k := fun k => fM.i 101 k rfl
    have b102 : ∀ k, gI hM' 102 k = gI hM 102 k := fun k => fM.i 102 k rfl
    simp only [a17, a18, a19, a20, a21, a22, a23, a24, b95, b96, b97, b98, b99, b100, b101, b102, fS.i 16 5 rfl, fS.i 16 9 rfl, fM.i 68 48 rfl, fM.i 68 49 rfl]
    exact hR
  · unfold IvS at hK ⊢
    have a30 : ∀ k, gI hS' 30 k = gI hS 30 k := fun k => fS.i 30 k rfl
    have a31 : ∀ k, gI hS' 31 k = gI hS 31 k := fun k => fS.i 31 k rfl
    have a32 : ∀ k, gI hS' 32 k = gI hS 32 k := fun k => fS.i 32 k rfl
    have b110 : ∀ k, gI hM' 110 k = gI hM 110 k := fun k => fM.i 110 k rfl
    have b111 : ∀ k, gI hM' 111 k = gI hM 111 k := fun k => fM.i 111 k rfl
    have b112 : ∀ k, gI hM' 112 k = gI hM 112 k := fun k => fM.i 112 k rfl
    simp only [a30, a31, a32, b110, b111, b112, fS.i 29 3 rfl, fM.i 68 75 rfl]
    exact hK
  · unfold IvT at t0 ⊢
    have d : ∀ k, gJ hS' (60 + 2 * 0 + 1) k = gJ hS (60 + 2 * 0 + 1) k := fun k => fS.j 61 k rfl
    have e : ∀ k, gJ hM' 71 k = gJ hM 71 k := fun k => fM.j 71 k rfl
    rw [fS.r 2 0 rfl, fS.i (60 + 2 * 0) 1 rfl, fS.i (60 + 2 * 0) 2 rfl, fM.i 69 0 rfl, fM.i 70 0 rfl]
    simp only [d, e]
    exact t0
  · unfold IvT at t1 ⊢
    have d : ∀ k, gJ hS' (60 + 2 * 1 + 1) k = gJ hS (60 + 2 * 1 + 1) k := fun k => fS.j 63 k rfl
    have e : ∀ k, gJ hM' 71 k = gJ hM 71 k := fun k => fM.j 71 k rfl
    rw [fS.r 2 1 rfl, fS.i (60 + 2 * 1) 1 rfl, fS.i (60 + 2 * 1) 2 rfl, fM.i 69 1 rfl, fM.i 70 1 rfl]
    simp only [d, e]
    exact t1
  · unfold IvT at t2 ⊢
    have d : ∀ k, gJ hS' (60 + 2 * 2 + 1) k = gJ hS (60 + 2 * 2 + 1) k := fun k => fS.j 65 k rfl
    have e : ∀ k, gJ hM' 71 k = gJ hM 71 k := fun k => fM.j 71 k rfl
    rw [fS.r 2 2 rfl, fS.i (60 + 2 * 2) 1 rfl, fS.i (60 + 2 * 2) 2 rfl, fM.i 69 2 rfl, fM.i 70 2 rfl]
    simp only [d, e]
    exact t2
  · unfold IvT at t3 ⊢
    have d : ∀ k, gJ hS' (60 + 2 * 3 + 1) k = gJ hS (60 + 2 * 3 + 1) k := fun k => fS.j 67 k rfl
    have e : ∀ k, gJ hM' 71 k = gJ hM 71 k := fun k => fM.j 71 k rfl
    rw [fS.r 2 3 rfl, fS.i (60 + 2 * 3) 1 rfl, fS.i (60 + 2 * 3) 2 rfl, fM.i 69 3 rfl, fM.i 70 3 rfl]
    simp only [d, e]
    exact t3
  · unfold IvP at hP ⊢
    have d : ∀ k, gI hS' 4 k = gI hS 4 k := fun k => fS.i 4 k rfl
    have e : ∀ k, gI hM' 72 k = gI hM 72 k := fun k => fM.i 72 k rfl
    simp only [d, e, fS.i 3 1 rfl, fM.i 68 8 rfl]
    exact hP
  · unfold IvF at hF ⊢
    have d : ∀ k, gI hS' 52 k = gI hS 52 k := fun k => fS.i 52 k rfl
    have e : ∀ k, gI hM' 114 k = gI hM 114 k := fun k => fM.i 114 k rfl
    simp only [d, e, fS.i 50 3 rfl, fM.i 68 83 rfl]
    exact hF
  · refine ⟨?_, fun k hk => by rw [fS.i 41 k (by simp [vS]; omega)]; exact hW.2 k hk⟩
    have hW := hW.1
    unfold IvWt at hW ⊢
    have d : ∀ k, gI hS' 46 k = gI hS 46 k := fun k => fS.i 46 k rfl
    simp only [d]
    exact hW
theorem OK2_st {T : Type} {hS hM hS' hM' : MH} (h : Inv2 hS hM) (fS : Fr vS hS hS') (fM : Fr vM hM hM') (a : T) (v : Int32) : OK2 hS hM (some (a, sI hS' 1 12 v)) (some (a, sI hM' 68 0 v)) :=
  ⟨a, _, _, rfl, rfl, Inv_st (Inv_vol h fS fM) v, (fS.mono (fun _ _ => vS_le)).sI 1 12 v rfl, (fM.mono (fun _ _ => vM_le)).sI 68 0 v rfl⟩
theorem OK2_id {T : Type} {hS hM : MH} (h : Inv2 hS hM) (a : T) : OK2 hS hM (some (a, hS)) (some (a, hM)) := ⟨a, _, _, rfl, rfl, h, Fr.rfl, Fr.rfl⟩
/-- calls that say yes or no -/
theorem bz {c : Prop} [Decidable c] : ((if c then (1 : Int32) else 0) = 0) = ¬ c := by
  apply propext; split <;> simp_all
theorem nar_bz {c : Prop} [Decidable c] : narOK 1 (if c then (1 : Int32) else 0) = true := by split <;> rfl
theorem nar0 : narOK 1 0 = true := rfl
theorem nar1 : narOK 1 1 = true := rfl
