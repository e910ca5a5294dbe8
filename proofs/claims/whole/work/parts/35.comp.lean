/-! THE INVARIANT'S PIECES, kept by what writes elsewhere -/
def kAS (c k : Nat) : Bool := (c == 1 && (k == 9 || k == 10 || (12 ≤ k && k ≤ 17))) || (c == 16 && (k == 10 || k == 11))
def kAM (c k : Nat) : Bool := c == 68 && (k ≤ 2 || k == 14 || k == 15 || k == 66 || k == 79 || k == 80 || k == 51 || k == 50)
theorem IvA_fr {WS WM : Nat → Nat → Bool} {hS hM hS' hM' : MH} (hA : IvA hS hM) (fS : Fr WS hS hS') (fM : Fr WM hM hM') (kS : ∀ c k, kAS c k = true → WS c k = false) (kM : ∀ c k, kAM c k = true → WM c k = false) : IvA hS' hM' := by
  unfold IvA at hA ⊢
  rw [fS.i 1 12 (kS _ _ rfl), fS.j 1 9 (kS _ _ rfl), fS.j 1 10 (kS _ _ rfl), fS.i 1 13 (kS _ _ rfl), fS.i 1 14 (kS _ _ rfl), fS.i 1 15 (kS _ _ rfl), fS.i 1 16 (kS _ _ rfl), fS.i 1 17 (kS _ _ rfl), fS.i 16 11 (kS _ _ rfl), fS.i 16 10 (kS _ _ rfl), fM.i 68 0 (kM _ _ rfl), fM.j 68 1 (kM _ _ rfl), fM.j 68 2 (kM _ _ rfl), fM.i 68 14 (kM _ _ rfl), fM.i 68 15 (kM _ _ rfl), fM.i 68 66 (kM _ _ rfl), fM.i 68 79 (kM _ _ rfl), fM.i 68 80 (kM _ _ rfl), fM.i 68 51 (kM _ _ rfl), fM.i 68 50 (kM _ _ rfl)]
  exact hA
def kLS (G c k : Nat) : Bool := (G ≤ c && c ≤ G + 5)
def kLM (c k : Nat) : Bool := (85 ≤ c && c ≤ 89) || (c == 68 && (k == 32 || k == 33))
theorem IvL_fr {WS WM : Nat → Nat → Bool} {hS hM hS' hM' : MH} {G n m : Nat} (hL : IvL hS hM G n m) (fS : Fr WS hS hS') (fM : Fr WM hM hM') (kS : ∀ c k, kLS G c k = true → WS c k = false) (kM : ∀ c k, kLM c k = true → WM c k = false) : IvL hS' hM' G n m := by
  unfold IvL at hL ⊢
  have e88 : ∀ k, gI hM' 88 k = gI hM 88 k := fun k => fM.i 88 k (kM _ _ rfl)
  have e89 : ∀ k, gI hM' 89 k = gI hM 89 k := fun k => fM.i 89 k (kM _ _ rfl)
  have e85 : ∀ k, gI hM' 85 k = gI hM 85 k := fun k => fM.i 85 k (kM _ _ rfl)
  have e86 : ∀ k, gI hM' 86 k = gI hM 86 k := fun k => fM.i 86 k (kM _ _ rfl)
  have e87 : ∀ k, gI hM' 87 k = gI hM 87 k := fun k => fM.i 87 k (kM _ _ rfl)
  have q : ∀ i k, i ≤ 5 → kLS G (G + i) k = true := fun i k hi => by unfold kLS; simp; omega
  have d0 : ∀ k, gI hS' G k = gI hS G k := fun k => fS.i G k (kS _ _ (q 0 k (by omega)))
  have d1 : ∀ k, gI hS' (G + 1) k = gI hS (G + 1) k := fun k => fS.i _ k (kS _ _ (q 1 k (by omega)))
  have d2 : ∀ k, gI hS' (G + 2) k = gI hS (G + 2) k := fun k => fS.i _ k (kS _ _ (q 2 k (by omega)))
  have d3 : ∀ k, gI hS' (G + 3) k = gI hS (G + 3) k := fun k => fS.i _ k (kS _ _ (q 3 k (by omega)))
  have d4 : ∀ k, gI hS' (G + 4) k = gI hS (G + 4) k := fun k => fS.i _ k (kS _ _ (q 4 k (by omega)))
  have d5 : ∀ k, gI hS' (G + 5) k = gI hS (G + 5) k := fun k => fS.i _ k (kS _ _ (q 5 k (by omega)))
  simp only [d0, d1, d2, d3, d4, d5, e88, e89, e85, e86, e87, fM.i 68 32 (kM _ _ rfl), fM.i 68 33 (kM _ _ rfl)]
  exact hL
def kRS (c k : Nat) : Bool := (17 ≤ c && c ≤ 24) || (c == 16 && (k == 5 || k == 9))
def kRM (c k : Nat) : Bool := (95 ≤ c && c ≤ 102) || (c == 68 && (k == 48 || k == 49))
theorem IvR_fr {WS WM : Nat → Nat → Bool} {hS hM hS' hM' : MH} {m r o : Nat} (hR : IvR hS hM m r o) (fS : Fr WS hS hS') (fM : Fr WM hM hM') (kS : ∀ c k, kRS c k = true → WS c k = false) (kM : ∀ c k, kRM c k = true → WM c k = false) : IvR hS' hM' m r o := by
  unfold IvR at hR ⊢
  have a17 : ∀ k, gI hS' 17 k = gI hS 17 k := fun k => fS.i 17 k (kS _ _ rfl)
  have a18 : ∀ k, gI hS' 18 k = gI hS 18 k := fun k => fS.i 18 k (kS _ _ rfl)
  have a19 : ∀ k, gI hS' 19 k = gI hS 19 k := fun k => fS.i 19 k (kS _ _ rfl)
  have a20 : ∀ k, gI hS' 20 k = gI hS 20 k := fun k => fS.i 20 k (kS _ _ rfl)
  have a21 : ∀ k, gI hS' 21 k = gI hS 21 k := fun k => fS.i 21 k (kS _ _ rfl)
  have a22 : ∀ k, gI hS' 22 k = gI hS 22 k := fun k => fS.i 22 k (kS _ _ rfl)
  have a23 : ∀ k, gI hS' 23 k = gI hS 23 k := fun k => fS.i 23 k (kS _ _ rfl)
  have a24 : ∀ k, gI hS' 24 k = gI hS 24 k := fun k => fS.i 24 k (kS _ _ rfl)
  have b95 : ∀ k, gI hM' 95 k = gI hM 95 k := fun k => fM.i 95 k (kM _ _ rfl)
  have b96 : ∀ k, gI hM' 96 k = gI hM 96 k := fun k => fM.i 96 k (kM _ _ rfl)
  have b97 : ∀ k, gI hM' 97 k = gI hM 97 k := fun k => fM.i 97 k (kM _ _ rfl)
  have b98 : ∀ k, gI hM' 98 k = gI hM 98 k := fun k => fM.i 98 k (kM _ _ rfl)
  have b99 : ∀ k, gI hM' 99 k = gI hM 99 k := fun k => fM.i 99 k (kM _ _ rfl)
  have b100 : ∀ k, gI hM' 100 k = gI hM 100 k := fun k => fM.i 100 k (kM _ _ rfl)
  have b101 : ∀ k, gI hM' 101 k = gI hM 101 k := fun k => fM.i 101 k (kM _ _ rfl)
  have b102 : ∀ k, gI hM' 102 k = gI hM 102 k := fun k => fM.i 102 k (kM _ _ rfl)
  simp only [a17, a18, a19, a20, a21, a22, a23, a24, b95, b96, b97, b98, b99, b100, b101, b102, fS.i 16 5 (kS _ _ rfl), fS.i 16 9 (kS _ _ rfl), fM.i 68 48 (kM _ _ rfl), fM.i 68 49 (kM _ _ rfl)]
  exact hR
def kKS (c k : Nat) : Bool := (30 ≤ c && c ≤ 32) || (c == 29 && k == 3)
def kKM (c k : Nat) : Bool := (110 ≤ c && c ≤ 112) || (c == 68 && k == 75)
theorem IvS_fr {WS WM : Nat → Nat → Bool} {hS hM hS' hM' : MH} {s : Nat} (hK : IvS hS hM s) (fS : Fr WS hS hS') (fM : Fr WM hM hM') (kS : ∀ c k, kKS c k = true → WS c k = false) (kM : ∀ c k, kKM c k = true → WM c k = false) : IvS hS' hM' s := by
  unfold IvS at hK ⊢
  have a30 : ∀ k, gI hS' 30 k = gI hS 30 k := fun k => fS.i 30 k (kS _ _ rfl)
  have a31 : ∀ k, gI hS' 31 k = gI hS 31 k := fun k => fS.i 31 k (kS _ _ rfl)
  have a32 : ∀ k, gI hS' 32 k = gI hS 32 k := fun k => fS.i 32 k (kS _ _ rfl)
  have b110 : ∀ k, gI hM' 110 k = gI hM 110 k := fun k => fM.i 110 k (kM _ _ rfl)
  have b111 : ∀ k, gI hM' 111 k = gI hM 111 k := fun k => fM.i 111 k (kM _ _ rfl)
  have b112 : ∀ k, gI hM' 112 k = gI hM 112 k := fun k => fM.i 112 k (kM _ _ rfl)
  simp only [a30, a31, a32, b110, b111, b112, fS.i 29 3 (kS _ _ rfl), fM.i 68 75 (kM _ _ rfl)]
  exact hK
def kES (G c k : Nat) : Bool := kLS G c k || kRS c k || kKS c k || (c == 3 && k == 9) || (c == 1 && k == 11)
def kEM (c k : Nat) : Bool := kLM c k || kRM c k || kKM c k
theorem IvE_fr {WS WM : Nat → Nat → Bool} {hS hM hS' hM' : MH} {G n m : Nat} (hE : IvE hS hM G n m) (fS : Fr WS hS hS') (fM : Fr WM hM hM') (kS : ∀ c k, kES G c k = true → WS c k = false) (kM : ∀ c k, kEM c k = true → WM c k = false) : IvE hS' hM' G n m := by
  obtain ⟨hG, hr, hL, ⟨r, o, hR⟩, s, hK⟩ := hE
  refine ⟨?_, ?_, IvL_fr hL fS fM (fun c k h => kS c k (by simp [kES, h])) (fun c k h => kM c k (by simp [kEM, h])), ⟨r, o, IvR_fr hR fS fM (fun c k h => kS c k (by simp [kES, h])) (fun c k h => kM c k (by simp [kEM, h]))⟩, s, IvS_fr hK fS fM (fun c k h => kS c k (by simp [kES, h])) (fun c k h => kM c k (by simp [kEM, h]))⟩
  · rw [fS.r 3 9 (kS 3 9 (by simp [kES]))]; exact hG
  · rw [fS.r 1 11 (kS 1 11 (by simp [kES]))]; exact hr
def kTS (t c k : Nat) : Bool := (c == 2 && k == t) || c == 60 + 2 * t || c == 60 + 2 * t + 1
def kTM (t c k : Nat) : Bool := ((c == 69 || c == 70) && k == t) || (c == 71 && 60 * t ≤ k && k < 60 * t + 60)
theorem IvT_fr {WS WM : Nat → Nat → Bool} {hS hM hS' hM' : MH} {t : Nat} (hT : IvT hS hM t) (fS : Fr WS hS hS') (fM : Fr WM hM hM') (kS : ∀ c k, kTS t c k = true → WS c k = false) (kM : ∀ c k, kTM t c k = true → WM c k = false) : IvT hS' hM' t := by
  unfold IvT at hT ⊢
  have e : ∀ k, k < 60 → gJ hM' 71 (60 * t + k) = gJ hM 71 (60 * t + k) := fun k hk => fM.j 71 _ (kM _ _ (by simp [kTM]; omega))
  have d : ∀ k, gJ hS' (60 + 2 * t + 1) k = gJ hS (60 + 2 * t + 1) k := fun k => fS.j _ k (kS _ _ (by simp [kTS]))
  rw [fS.r 2 t (kS _ _ (by simp [kTS])), fS.i (60 + 2 * t) 1 (kS _ _ (by simp [kTS])), fS.i (60 + 2 * t) 2 (kS _ _ (by simp [kTS])), fM.i 69 t (kM _ _ (by simp [kTM])), fM.i 70 t (kM _ _ (by simp [kTM]))]
  obtain ⟨h1, h2, h3, h4⟩ := hT
  refine ⟨h1, h2, h3, ?_⟩
  rcases h4 with q | ⟨z, z1, z2, z3⟩
  · exact .inl q
  · refine .inr ⟨z, z1, z2, fun k hk => ?_⟩
    rw [d k, e k (by omega)]; exact z3 k hk
def kPS (c k : Nat) : Bool := c == 4 || (c == 3 && k == 1)
def kPM (c k : Nat) : Bool := c == 72 || (c == 68 && k == 8)
theorem IvP_fr {WS WM : Nat → Nat → Bool} {hS hM hS' hM' : MH} {t : Nat} (hP : IvP hS hM t) (fS : Fr WS hS hS') (fM : Fr WM hM hM') (kS : ∀ c k, kPS c k = true → WS c k = false) (kM : ∀ c k, kPM c k = true → WM c k = false) : IvP hS' hM' t := by
  unfold IvP at hP ⊢
  have d : ∀ k, gI hS' 4 k = gI hS 4 k := fun k => fS.i 4 k (kS _ _ rfl)
  have e : ∀ k, gI hM' 72 k = gI hM 72 k := fun k => fM.i 72 k (kM _ _ rfl)
  simp only [d, e, fS.i 3 1 (kS _ _ rfl), fM.i 68 8 (kM _ _ rfl)]
  exact hP
def kFS (c k : Nat) : Bool := c == 52 || (c == 50 && k == 3)
def kFM (c k : Nat) : Bool := c == 114 || (c == 68 && k == 83)
theorem IvF_fr {WS WM : Nat → Nat → Bool} {hS hM hS' hM' : MH} {f : Nat} (hF : IvF hS hM f) (fS : Fr WS hS hS') (fM : Fr WM hM hM') (kS : ∀ c k, kFS c k = true → WS c k = false) (kM : ∀ c k, kFM c k = true → WM c k = false) : IvF hS' hM' f := by
  unfold IvF at hF ⊢
  have d : ∀ k, gI hS' 52 k = gI hS 52 k := fun k => fS.i 52 k (kS _ _ rfl)
  have e : ∀ k, gI hM' 114 k = gI hM 114 k := fun k => fM.i 114 k (kM _ _ rfl)
  simp only [d, e, fS.i 50 3 (kS _ _ rfl), fM.i 68 83 (kM _ _ rfl)]
  exact hF
theorem IvW_fr {WS : Nat → Nat → Bool} {hS hS' : MH} (hW : IvW hS) (fS : Fr WS hS hS') (kS : ∀ k, WS 46 k = false) (kS' : ∀ k, k < 8 → WS 41 k = false := by intro k _; rfl) : IvW hS' := by
  refine ⟨?_, fun k hk => by rw [fS.i 41 k (kS' k hk)]; exact hW.2 k hk⟩
  have hW := hW.1
  unfold IvWt at hW ⊢
  have d : ∀ k, gI hS' 46 k = gI hS 46 k := fun k => fS.i 46 k (kS k)
  simp only [d]
  exact hW
/-- one tray written on both sides -/
def wTS (t c _k : Nat) : Bool := c == 60 + 2 * t || c == 60 + 2 * t + 1
def wTM (t c k : Nat) : Bool := ((c == 69 || c == 70) && k == t) || (c == 71 && 60 * t ≤ k && k < 60 * t + 60)
theorem Inv_tray {hS hM hS' hM' : MH} (h : Inv2 hS hM) {t : Nat} (ht : t < 4) (fS : Fr (wTS t) hS hS') (fM : Fr (wTM t) hM hM') (hT : IvT hS' hM' t) : Inv2 hS' hM' := by
  obtain ⟨hA, ⟨G, n, m, hE⟩, ⟨t0, t1, t2, t3⟩, ⟨p, hP⟩, ⟨f, hF⟩, hW⟩ := h
  have oth : ∀ u, u < 4 → u ≠ t → IvT hS hM u → IvT hS' hM' u := fun u hu hut hh => IvT_fr hh fS fM (fun c k q => by simp [kTS, wTS] at q ⊢; omega) (fun c k q => by simp [kTM, wTM] at q ⊢; omega)
  have all : ∀ u, u < 4 → IvT hS hM u → IvT hS' hM' u := fun u hu hh => by
    by_cases q : u = t
    · rw [q]; exact hT
    · exact oth u hu q hh
  refine ⟨IvA_fr hA fS fM (fun c k q => by simp [kAS, wTS] at q ⊢; omega) (fun c k q => by simp [kAM, wTM] at q ⊢; omega), ⟨G, n, m, IvE_fr hE fS fM (fun c k q => ?_) (fun c k q => by simp [kEM, kLM, kRM, kKM, wTM] at q ⊢; omega)⟩, ⟨all 0 (by omega) t0, all 1 (by omega) t1, all 2 (by omega) t2, all 3 (by omega) t3⟩, ⟨p, IvP_fr hP fS fM (fun c k q => by simp [kPS, wTS] at q ⊢; omega) (fun c k q => by simp [kPM, wTM] at q ⊢; omega)⟩, ⟨f, IvF_fr hF fS fM (fun c k q => by simp [kFS, wTS] at q ⊢; omega) (fun c k q => by simp [kFM, wTM] at q ⊢; omega)⟩, IvW_fr hW fS (fun k => by simp [wTS]; omega) (fun k _ => by simp [wTS]; omega)⟩
  rcases hE.1 with ⟨rfl, -⟩ | ⟨rfl, -⟩
  · simp [kES, kLS, kRS, kKS, wTS] at q ⊢; omega
  · simp [kES, kLS, kRS, kKS, wTS] at q ⊢; omega
theorem wTS_le {t c k : Nat} (ht : t < 4) (h : wS c k = false) : wTS t c k = false := by
  unfold wS at h; unfold wTS; simp at h ⊢; omega
theorem wTM_le {t c k : Nat} (h : wM c k = false) : wTM t c k = false := by
  unfold wM at h; unfold wTM; simp at h ⊢; omega
theorem Inv_T {hS hM : MH} (h : Inv2 hS hM) {t : Nat} (ht : t < 4) : IvT hS hM t := by
  obtain ⟨-, -, ⟨t0, t1, t2, t3⟩, -⟩ := h
  rcases t with _ | _ | _ | _ | t
  · exact t0
  · exact t1
  · exact t2
  · exact t3
  · omega
theorem Fr.cJ {W : Nat → Nat → Bool} {h h' : MH} (a : Fr W h h') (c0 c1 sp dp n : Nat) (w : ∀ k, dp ≤ k → k < dp + n → W c1 k = true) : Fr W h (cJ h' c0 c1 sp dp n) := by
  refine a.trans ⟨Eq.refl _, fun c' k' w' => ⟨Eq.refl _, ?_, Eq.refl _⟩⟩
  show (if c' = c1 ∧ dp ≤ k' ∧ k' < dp + n then gJ h' c0 (sp + (k' - dp)) else gJ h' c' k') = gJ h' c' k'
  rw [if_neg]
  rintro ⟨rfl, q1, q2⟩
  rw [w k' q1 q2] at w'; cases w'
theorem Fr.cI {W : Nat → Nat → Bool} {h h' : MH} (a : Fr W h h') (c0 c1 sp dp n : Nat) (w : ∀ k, dp ≤ k → k < dp + n → W c1 k = true) : Fr W h (cI h' c0 c1 sp dp n) := by
  refine a.trans ⟨Eq.refl _, fun c' k' w' => ⟨?_, Eq.refl _, Eq.refl _⟩⟩
  show (if c' = c1 ∧ dp ≤ k' ∧ k' < dp + n then gI h' c0 (sp + (k' - dp)) else gI h' c' k') = gI h' c' k'
  rw [if_neg]
  rintro ⟨rfl, q1, q2⟩
  rw [w k' q1 q2] at w'; cases w'
theorem gJ_cJ (h : MH) (c0 c1 sp dp n a b : Nat) : gJ (cJ h c0 c1 sp dp n) a b = if a = c1 ∧ dp ≤ b ∧ b < dp + n then gJ h c0 (sp + (b - dp)) else gJ h a b := rfl
theorem gI_cJ (h : MH) (c0 c1 sp dp n a b : Nat) : gI (cJ h c0 c1 sp dp n) a b = gI h a b := rfl
theorem gR_cJ (h : MH) (c0 c1 sp dp n a b : Nat) : gR (cJ h c0 c1 sp dp n) a b = gR h a b := rfl
theorem gI_cI (h : MH) (c0 c1 sp dp n a b : Nat) : gI (cI h c0 c1 sp dp n) a b = if a = c1 ∧ dp ≤ b ∧ b < dp + n then gI h c0 (sp + (b - dp)) else gI h a b := rfl
theorem gJ_cI (h : MH) (c0 c1 sp dp n a b : Nat) : gJ (cI h c0 c1 sp dp n) a b = gJ h a b := rfl
theorem gR_cI (h : MH) (c0 c1 sp dp n a b : Nat) : gR (cI h c0 c1 sp dp n) a b = gR h a b := rfl
/-- rows filled -/
theorem eFillI {N : Nat} (q r : Nat) (v : Int32) (hq : q < 2147483648) : ∀ (n k : Nat) (h : MH), k ≤ q → q - k < n → ∃ h', L_Arrays_fill_AII N n q r v (nI k) (nI q) h = some h' ∧ (∀ a b, gI h' a b = if a = r ∧ k ≤ b ∧ b < q then v else gI h a b) ∧ (∀ a b, gJ h' a b = gJ h a b) ∧ (∀ a b, gR h' a b = gR h a b) ∧ h'.1 = h.1 := by
  intro n
  induction n with
  | zero => intro k h _ h2; omega
  | succ n ih =>
    intro k h h1 h2
    show ∃ h', F_Arrays_fill_AII_5 N (L_Arrays_fill_AII N n) q r v (nI k) (nI q) h = some h' ∧ _
    unfold F_Arrays_fill_AII_5
    simp (disch := omega) only [nN_le, inB_nI, iN_nI, L1, nN_add]
    by_cases g : q ≤ k
    · rw [if_pos g]
      refine ⟨h, rfl, fun a b => ?_, fun _ _ => rfl, fun _ _ => rfl, rfl⟩
      rw [if_neg (by omega)]
    · rw [if_neg g, if_pos (by omega)]
      obtain ⟨h', e1, e2, e3, e4, e5⟩ := ih (k + 1) (sI h r k v) (by omega) (by omega)
      refine ⟨h', e1, fun a b => ?_, e3, e4, e5⟩
      rw [e2, gI_sI]
      by_cases ga : a = r
      · by_cases gb : b = k
        · simp [ga, gb]; omega
        · simp [ga, gb]
          by_cases gc : k ≤ b ∧ b < q
          · rw [if_pos (by omega), if_pos gc]
          · rw [if_neg (by omega), if_neg gc]
      · simp [ga]
theorem eFillJ {N : Nat} (q r : Nat) (v : Int64) (hq : q < 2147483648) : ∀ (n k : Nat) (h : MH), k ≤ q → q - k < n → ∃ h', L_Arrays_fill_AJJ N n q r v (nI k) (nI q) h = some h' ∧ (∀ a b, gJ h' a b = if a = r ∧ k ≤ b ∧ b < q then v else gJ h a b) ∧ (∀ a b, gI h' a b = gI h a b) ∧ (∀ a b, gR h' a b = gR h a b) ∧ h'.1 = h.1 := by
  intro n
  induction n with
  | zero => intro k h _ h2; omega
  | succ n ih =>
    intro k h h1 h2
    show ∃ h', F_Arrays_fill_AJJ_6 N (L_Arrays_fill_AJJ N n) q r v (nI k) (nI q) h = some h' ∧ _
    unfold F_Arrays_fill_AJJ_6
    simp (disch := omega) only [nN_le, inB_nI, iN_nI, L1, nN_add]
    by_cases g : q ≤ k
    · rw [if_pos g]
      refine ⟨h, rfl, fun a b => ?_, fun _ _ => rfl, fun _ _ => rfl, rfl⟩
      rw [if_neg (by omega)]
    · rw [if_neg g, if_pos (by omega)]
      obtain ⟨h', e1, e2, e3, e4, e5⟩ := ih (k + 1) (sJ h r k v) (by omega) (by omega)
      refine ⟨h', e1, fun a b => ?_, e3, e4, e5⟩
      rw [e2, gJ_sJ]
      by_cases ga : a = r
      · by_cases gb : b = k
        · simp [ga, gb]; omega
        · simp [ga, gb]
          by_cases gc : k ≤ b ∧ b < q
          · rw [if_pos (by omega), if_pos gc]
          · rw [if_neg (by omega), if_neg gc]
      · simp [ga]
theorem fFillI {N : Nat} (q r : Nat) (v : Int32) (h : MH) (hq : q < 2147483648) (hN : q < N) : ∃ h', f_Arrays_fill_AII N q r v h = some h' ∧ (∀ a b, gI h' a b = if a = r ∧ b < q then v else gI h a b) ∧ (∀ a b, gJ h' a b = gJ h a b) ∧ (∀ a b, gR h' a b = gR h a b) ∧ h'.1 = h.1 := by
  obtain ⟨n, rfl⟩ : ∃ n, N = n + 1 := ⟨N - 1, by omega⟩
  obtain ⟨h', e1, e2, e3⟩ := eFillI (N := n + 1) q r v hq (n + 1 + 1) 0 h (by omega) (by omega)
  exact ⟨h', e1, fun a b => by rw [e2]; simp, e3⟩
theorem fFillJ {N : Nat} (q r : Nat) (v : Int64) (h : MH) (hq : q < 2147483648) (hN : q < N) : ∃ h', f_Arrays_fill_AJJ N q r v h = some h' ∧ (∀ a b, gJ h' a b = if a = r ∧ b < q then v else gJ h a b) ∧ (∀ a b, gI h' a b = gI h a b) ∧ (∀ a b, gR h' a b = gR h a b) ∧ h'.1 = h.1 := by
  obtain ⟨n, rfl⟩ : ∃ n, N = n + 1 := ⟨N - 1, by omega⟩
  obtain ⟨h', e1, e2, e3⟩ := eFillJ (N := n + 1) q r v hq (n + 1 + 1) 0 h (by omega) (by omega)
  exact ⟨h', e1, fun a b => by rw [e2]; simp, e3⟩
