/-! LAND: the call -/
def w85 (c _k : Nat) : Bool := 85 ≤ c && c ≤ 89
theorem lCp3 {N : Nat} {h0 : MH} : ∀ (d k f : Nat) (h : MH), k + d = 6 → d < f → Fr w85 h0 h → (∀ j, j < k → gI h 85 j = gI h0 78 j ∧ gI h 86 j = gI h0 79 j ∧ gI h 87 j = gI h0 80 j) → (∀ j, gI h 88 j = gI h0 88 j ∧ gI h 89 j = gI h0 89 j) → ∃ h', (L_M_land N f).2.2.2.2.2.2 (nI k) h = some (gI h0 68 31, sI (sI (sI (sI h' 68 48 0) 68 49 0) 68 75 0) 68 0 0) ∧ Fr w85 h0 h' ∧ (∀ j, j < 6 → gI h' 85 j = gI h0 78 j ∧ gI h' 86 j = gI h0 79 j ∧ gI h' 87 j = gI h0 80 j) ∧ (∀ j, gI h' 88 j = gI h0 88 j ∧ gI h' 89 j = gI h0 89 j) := by
  intro d
  induction d with
  | zero =>
    intro k f h hd hf fr ev ew
    obtain ⟨f, rfl⟩ : ∃ z, f = z + 1 := ⟨f - 1, by omega⟩
    refine ⟨h, ?_, fr, fun j hj => ev j (by omega), ew⟩
    show F_M_land_273 N (L_M_land N f) _ h = _
    unfold F_M_land_273 f_M_gives
    rw [show (6 : Int32) = nI 6 from rfl, if_pos (by rw [nN_le (by omega) (by omega)]; omega)]
    dsimp only
    rw [bnd_some]
    have e : gI (sI (sI (sI h 68 48 0) 68 49 0) 68 75 0) 68 31 = gI h 68 31 := rfl
    dsimp only
    rw [e, fr.i 68 31 rfl]
  | succ d ih =>
    intro k f h hd hf fr ev ew
    obtain ⟨f, rfl⟩ : ∃ z, f = z + 1 := ⟨f - 1, by omega⟩
    have ib : inB (nI k) 6 = true := by rw [inB_nI (by omega)]; omega
    have e78 : gI h 78 k = gI h0 78 k := fr.i 78 k rfl
    have e79 : gI (sI h 85 k (gI h0 78 k)) 79 k = gI h0 79 k := fr.i 79 k rfl
    have e80 : gI (sI (sI h 85 k (gI h0 78 k)) 86 k (gI h0 79 k)) 80 k = gI h0 80 k := fr.i 80 k rfl
    obtain ⟨h', a2, a3, a4, a5⟩ := ih (k + 1) f (sI (sI (sI h 85 k (gI h0 78 k)) 86 k (gI h0 79 k)) 87 k (gI h0 80 k)) (by omega) (by omega) (((fr.sI 85 k _ rfl).sI 86 k _ rfl).sI 87 k _ rfl) (fun j hj => by
      refine ⟨?_, ?_, ?_⟩
      · show gI (sI h 85 k (gI h0 78 k)) 85 j = _
        rw [gI_sI]
        by_cases z : j = k
        · rw [if_pos ⟨rfl, z⟩, z]
        · rw [if_neg (by omega)]; exact (ev j (by omega)).1
      · show gI (sI (sI h 85 k (gI h0 78 k)) 86 k (gI h0 79 k)) 86 j = _
        rw [gI_sI]
        by_cases z : j = k
        · rw [if_pos ⟨rfl, z⟩, z]
        · rw [if_neg (by omega)]; exact (ev j (by omega)).2.1
      · rw [gI_sI]
        by_cases z : j = k
        · rw [if_pos ⟨rfl, z⟩, z]
        · rw [if_neg (by omega)]; exact (ev j (by omega)).2.2) (fun j => ew j)
    refine ⟨h', ?_, a3, a4, a5⟩
    rw [← a2]
    show F_M_land_273 N (L_M_land N f) _ h = _
    unfold F_M_land_273
    rw [show (6 : Int32) = nI 6 from rfl, if_neg (by rw [nN_le (by omega) (by omega)]; omega), if_pos ib, if_pos ib, iN_nI (by omega), e78]
    dsimp only
    rw [if_pos ib, if_pos ib, e79, if_pos ib, if_pos ib, e80, show nI k + 1 = nI (k + 1) from nN_add k 1]
theorem lCp2 {N : Nat} {h0 : MH} : ∀ (d k f : Nat) (h : MH), k + d = 48 → d < f → Fr w85 h0 h → (∀ j, j < k → gI h 88 j = gI h0 81 j) → (∀ j, gI h 89 j = gI h0 89 j) → ∃ f' h', f ≤ f' + d + 1 ∧ (L_M_land N f).2.2.2.2.2.1 (nI k) h = F_M_land_273 N (L_M_land N f') 0 h' ∧ Fr w85 h0 h' ∧ (∀ j, j < 48 → gI h' 88 j = gI h0 81 j) ∧ (∀ j, gI h' 89 j = gI h0 89 j) := by
  intro d
  induction d with
  | zero =>
    intro k f h hd hf fr ev ew
    obtain ⟨f, rfl⟩ : ∃ z, f = z + 1 := ⟨f - 1, by omega⟩
    refine ⟨f, h, by omega, ?_, fr, fun j hj => ev j (by omega), ew⟩
    show F_M_land_247 N (L_M_land N f) _ h = _
    unfold F_M_land_247
    rw [show (48 : Int32) = nI 48 from rfl, if_pos (by rw [nN_le (by omega) (by omega)]; omega)]
  | succ d ih =>
    intro k f h hd hf fr ev ew
    obtain ⟨f, rfl⟩ : ∃ z, f = z + 1 := ⟨f - 1, by omega⟩
    have ib : inB (nI k) 48 = true := by rw [inB_nI (by omega)]; omega
    have e81 : gI h 81 k = gI h0 81 k := fr.i 81 k rfl
    obtain ⟨f', h', a1, a2, a3, a4, a5⟩ := ih (k + 1) f (sI h 88 k (gI h0 81 k)) (by omega) (by omega) (fr.sI 88 k _ rfl) (fun j hj => by
      rw [gI_sI]
      by_cases z : j = k
      · rw [if_pos ⟨rfl, z⟩, z]
      · rw [if_neg (by omega)]; exact ev j (by omega)) (fun j => ew j)
    refine ⟨f', h', by omega, ?_, a3, a4, a5⟩
    rw [← a2]
    show F_M_land_247 N (L_M_land N f) _ h = _
    unfold F_M_land_247
    rw [show (48 : Int32) = nI 48 from rfl, if_neg (by rw [nN_le (by omega) (by omega)]; omega), if_pos ib, if_pos ib, iN_nI (by omega), e81, show nI k + 1 = nI (k + 1) from nN_add k 1]
theorem lCp1 {N : Nat} {h0 : MH} : ∀ (d k f : Nat) (h : MH), k + d = 36 → d < f → Fr w85 h0 h → (∀ j, j < k → gI h 89 j = gI h0 82 j &&& 1) → ∃ f' h', f ≤ f' + d + 1 ∧ (L_M_land N f).2.2.2.2.1 (nI k) h = F_M_land_247 N (L_M_land N f') 0 h' ∧ Fr w85 h0 h' ∧ (∀ j, j < 36 → gI h' 89 j = gI h0 82 j &&& 1) := by
  intro d
  induction d with
  | zero =>
    intro k f h hd hf fr ev
    obtain ⟨f, rfl⟩ : ∃ z, f = z + 1 := ⟨f - 1, by omega⟩
    refine ⟨f, h, by omega, ?_, fr, fun j hj => ev j (by omega)⟩
    show F_M_land_221 N (L_M_land N f) _ h = _
    unfold F_M_land_221
    rw [show (36 : Int32) = nI 36 from rfl, if_pos (by rw [nN_le (by omega) (by omega)]; omega)]
  | succ d ih =>
    intro k f h hd hf fr ev
    obtain ⟨f, rfl⟩ : ∃ z, f = z + 1 := ⟨f - 1, by omega⟩
    have ib : inB (nI k) 36 = true := by rw [inB_nI (by omega)]; omega
    have e82 : gI h 82 k = gI h0 82 k := fr.i 82 k rfl
    obtain ⟨f', h', a1, a2, a3, a4⟩ := ih (k + 1) f (sI h 89 k (gI h0 82 k &&& 1)) (by omega) (by omega) (fr.sI 89 k _ rfl) (fun j hj => by
      rw [gI_sI]
      by_cases z : j = k
      · rw [if_pos ⟨rfl, z⟩, z]
      · rw [if_neg (by omega)]; exact ev j (by omega))
    refine ⟨f', h', by omega, ?_, a3, a4⟩
    rw [← a2]
    show F_M_land_221 N (L_M_land N f) _ h = _
    unfold F_M_land_221
    rw [show (36 : Int32) = nI 36 from rfl, if_neg (by rw [nN_le (by omega) (by omega)]; omega), if_pos ib, if_pos ib, iN_nI (by omega), e82, show nI k + 1 = nI (k + 1) from nN_add k 1]
def wEM (c k : Nat) : Bool := (c == 68 && (k == 0 || k == 14 || k == 32 || k == 33 || k == 48 || k == 49 || k == 75)) || (85 ≤ c && c ≤ 89)
/-- the reference takes the land -/
theorem finM {N f : Nat} (hf : 200 < f) {hM : MH} (e16 : gI hM 68 16 = 0) : ∃ h', F_M_land_154 N (L_M_land N f) 0 hM = some (gI hM 68 31, h') ∧ Fr wEM hM h' ∧ gI h' 68 0 = 0 ∧ gI h' 68 14 = 0 ∧ gI h' 68 32 = gI hM 68 29 ∧ gI h' 68 33 = gI hM 68 30 ∧ gI h' 68 48 = nI 0 ∧ gI h' 68 49 = nI 0 ∧ gI h' 68 75 = nI 0 ∧ (∀ k, k < 36 → gI h' 89 k = gI hM 82 k &&& 1) ∧ (∀ k, k < 48 → gI h' 88 k = gI hM 81 k) ∧ (∀ k, k < 6 → gI h' 85 k = gI hM 78 k ∧ gI h' 86 k = gI hM 79 k ∧ gI h' 87 k = gI hM 80 k) := by
  obtain ⟨f1, h1, a1, a2, a3, a4⟩ := lCp1 (N := N) (h0 := sI (sI (sI hM 68 14 0) 68 32 (gI hM 68 29)) 68 33 (gI hM 68 30)) 36 0 (f + 1) _ (by omega) (by omega) Fr.rfl (fun j hj => absurd hj (Nat.not_lt_zero _))
  obtain ⟨f2, h2, b1, b2, b3, b4, b5⟩ := lCp2 (N := N) (h0 := h1) 48 0 (f1 + 1) h1 (by omega) (by omega) Fr.rfl (fun j hj => absurd hj (Nat.not_lt_zero _)) (fun _ => rfl)
  obtain ⟨h3, c2, c3, c4, c5⟩ := lCp3 (N := N) (h0 := h2) 6 0 (f2 + 1) h2 (by omega) (by omega) Fr.rfl (fun j hj => absurd hj (Nat.not_lt_zero _)) (fun _ => ⟨rfl, rfl⟩)
  have wle : ∀ c k, wEM c k = false → w85 c k = false := fun c k w => by unfold wEM at w; unfold w85; simp at w ⊢; omega
  have fr : Fr w85 (sI (sI (sI hM 68 14 0) 68 32 (gI hM 68 29)) 68 33 (gI hM 68 30)) h3 := (a3.trans b3).trans c3
  refine ⟨sI (sI (sI (sI h3 68 48 0) 68 49 0) 68 75 0) 68 0 0, ?_, ?_, rfl, ?_, ?_, ?_, rfl, rfl, rfl, fun k hk => ?_, fun k hk => ?_, fun k hk => ?_⟩
  · unfold F_M_land_154
    rw [if_pos rfl]
    dsimp only
    have e1 : gI (sI hM 68 14 (gI hM 68 16)) 68 16 = 0 := e16
    have e2 : gI (sI hM 68 14 (gI hM 68 16)) 68 29 = gI hM 68 29 := rfl
    have e3 : gI (sI (sI hM 68 14 (gI hM 68 16)) 68 32 (gI hM 68 29)) 68 30 = gI hM 68 30 := rfl
    rw [e1, if_pos (by decide), e2, e3, e16]
    have a2' : F_M_land_221 N (L_M_land N f) 0 (sI (sI (sI hM 68 14 0) 68 32 (gI hM 68 29)) 68 33 (gI hM 68 30)) = _ := a2
    have b2' : F_M_land_247 N (L_M_land N f1) 0 h1 = _ := b2
    have c2' : F_M_land_273 N (L_M_land N f2) 0 h2 = _ := c2
    rw [a2', b2', c2', (a3.trans b3).i 68 31 rfl]
    rfl
  · exact ((((((((Fr.rfl.sI 68 14 _ rfl).sI 68 32 _ rfl).sI 68 33 _ rfl).trans (fr.mono wle)).sI 68 48 _ rfl).sI 68 49 _ rfl).sI 68 75 _ rfl)).sI 68 0 _ rfl
  · show gI h3 68 14 = 0
    rw [fr.i 68 14 rfl]; rfl
  · show gI h3 68 32 = _
    rw [fr.i 68 32 rfl]; rfl
  · show gI h3 68 33 = _
    rw [fr.i 68 33 rfl]; rfl
  · show gI h3 89 k = _
    rw [(c5 k).2, b5, a4 k hk]; rfl
  · show gI h3 88 k = _
    rw [(c5 k).1, b4 k hk, a3.i 81 k rfl]; rfl
  · show gI h3 85 k = _ ∧ gI h3 86 k = _ ∧ gI h3 87 k = _
    obtain ⟨u1, u2, u3⟩ := c4 k hk
    rw [u1, u2, u3, (a3.trans b3).i 78 k rfl, (a3.trans b3).i 79 k rfl, (a3.trans b3).i 80 k rfl]
    exact ⟨rfl, rfl, rfl⟩
def wLS (D c k : Nat) : Bool := (c == 1 && (11 ≤ k && k ≤ 14)) || c == 3 || (11 ≤ c && c ≤ 15) || (D ≤ c && c ≤ D + 5) || (c == 16 && (k == 5 || k == 9)) || (c == 29 && k == 3)
def wLM (c k : Nat) : Bool := (c == 68 && (k == 0 || (8 ≤ k && k ≤ 16) || (28 ≤ k && k ≤ 33) || k == 39 || (45 ≤ k && k ≤ 49) || k == 75)) || (73 ≤ c && c ≤ 94)
theorem Inv_land {hS hM hS' hM' : MH} (h : Inv2 hS hM) {D : Nat} (hD : D = 5 ∨ D = 54) (fS : Fr (wLS D) hS hS') (fM : Fr wLM hM hM') (s : gI hS' 1 12 = gI hM' 68 0) (k13 : gI hS' 1 13 = gI hM' 68 14) (k14 : gI hS' 1 14 = gI hM' 68 15) (p1 : gI hS' 3 1 = nI 0) (p2 : gI hM' 68 8 = nI 0) (e : ∃ G n m, IvE hS' hM' G n m) : Inv2 hS' hM' := by
  obtain ⟨hA, -, ⟨t0, t1, t2, t3⟩, -, ⟨f, hF⟩, hW⟩ := h
  have tr : ∀ u, u < 4 → IvT hS hM u → IvT hS' hM' u := fun u hu hh => IvT_fr hh fS fM (fun c k q => by unfold kTS at q; unfold wLS; simp at q ⊢; omega) (fun c k q => by unfold kTM at q; unfold wLM; simp at q ⊢; omega)
  refine ⟨?_, e, ⟨tr 0 (by omega) t0, tr 1 (by omega) t1, tr 2 (by omega) t2, tr 3 (by omega) t3⟩, ⟨0, by omega, p1, p2, fun k hk => absurd hk (Nat.not_lt_zero _)⟩, ⟨f, IvF_fr hF fS fM (fun c k q => by unfold kFS at q; unfold wLS; simp at q ⊢; omega) (fun c k q => by unfold kFM at q; unfold wLM; simp at q ⊢; omega)⟩, IvW_fr hW fS (fun k => by unfold wLS; simp; omega) (fun k _ => by unfold wLS; simp; omega)⟩
  obtain ⟨a1, a2, a3, a4, a5, a6, a7, a8, a9⟩ := hA
  have w1 : ∀ k, ¬ (11 ≤ k ∧ k ≤ 14) → wLS D 1 k = false := fun k hk => by unfold wLS; simp; omega
  have w16 : ∀ k, k ≠ 5 → k ≠ 9 → wLS D 16 k = false := fun k h1 h2 => by unfold wLS; simp; omega
  unfold IvA
  rw [fS.j 1 9 (w1 9 (by omega)), fS.j 1 10 (w1 10 (by omega)), fM.j 68 1 rfl, fM.j 68 2 rfl, fS.i 1 15 (w1 15 (by omega)), fS.i 1 16 (w1 16 (by omega)), fS.i 1 17 (w1 17 (by omega)), fM.i 68 66 rfl, fM.i 68 79 rfl, fM.i 68 80 rfl, fS.i 16 11 (w16 11 (by omega) (by omega)), fS.i 16 10 (w16 10 (by omega) (by omega)), fM.i 68 51 rfl, fM.i 68 50 rfl]
  exact ⟨s, a2, a3, k13, k14, a6, a7, a8, a9⟩
