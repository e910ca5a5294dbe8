/-! LAND: before and behind the parts -/
theorem byte_d : ∀ b : Fin 256, sB (iN ((nI b - 128) &&& 255)) = nI b - 128 ∧ iN ((nI b - 128) &&& 255) < 256 ∧ nI (iN ((nI b - 128) &&& 255)) = (nI b - 128) &&& 255 ∧ (nI b - 128).toInt8.toInt32 = nI b - 128 := by decide +kernel
theorem byte_ok {v : Int32} (h : -128 ≤ v.toInt ∧ v.toInt ≤ 127) : sB (iN (v &&& 255)) = v ∧ iN (v &&& 255) < 256 ∧ nI (iN (v &&& 255)) = v &&& 255 ∧ v.toInt8.toInt32 = v := by
  have e : v = nI (v.toInt + 128).toNat - 128 := by
    rw [← Int32.toInt_inj, show (128 : Int32) = nI 128 from rfl, Int32.toInt_sub, nN_toInt (by omega), nN_toInt (by omega)]
    rw [Int.bmod_eq_of_le] <;> omega
  have d := byte_d ⟨(v.toInt + 128).toNat, by omega⟩
  have e2 : nI (⟨(v.toInt + 128).toNat, by omega⟩ : Fin 256).val - 128 = v := e.symm
  rw [e2] at d
  exact d
def wGS (D c k : Nat) : Bool := (c == 3 && k != 9) || (11 ≤ c && c ≤ 15) || (D ≤ c && c ≤ D + 5)
def wGM (c k : Nat) : Bool := (c == 68 && ((8 ≤ k && k ≤ 13) || k == 15 || k == 16 || (28 ≤ k && k ≤ 31) || k == 39 || (45 ≤ k && k ≤ 47))) || (73 ≤ c && c ≤ 84) || (90 ≤ c && c ≤ 94)
theorem wDS_G {D c k : Nat} (h : wGS D c k = false) : wDS D c k = false := by
  unfold wGS at h; unfold wDS wTk; simp at h ⊢; omega
theorem wDP_G {c k : Nat} (h : wGM c k = false) : wDP c k = false := by
  unfold wGM at h; unfold wDP wDM wRd wS5; simp at h ⊢; omega
theorem eClear {N : Nat} (hN : 100 < N) {D : Nat} (h : MH) : ∃ h', f_Land_clear N D h = some h' ∧ gI h' D 0 = 0 ∧ gI h' D 1 = 0 ∧ (∀ k, k < 48 → gI h' (D + 1) k = 0) ∧ (∀ k, k < 6 → gI h' (D + 2) k = 0 ∧ gI h' (D + 4) k = 100 ∧ gI h' (D + 5) k = 100) ∧ Fr (fun c _ => D ≤ c && c ≤ D + 5) h h' := by
  obtain ⟨h1, a1, a2, a3, a4, a5⟩ := fFillI (N := N) 48 (D + 1) 0 (sI (sI h D 0 0) D 1 0) (by omega) (by omega)
  obtain ⟨h2, b1, b2, b3, b4, b5⟩ := fFillI (N := N) 6 (D + 2) 0 h1 (by omega) (by omega)
  obtain ⟨h3, c1, c2, c3, c4, c5⟩ := fFillI (N := N) 6 (D + 3) 0 h2 (by omega) (by omega)
  obtain ⟨h4, d1, d2, d3, d4, d5⟩ := fFillI (N := N) 6 (D + 4) 100 h3 (by omega) (by omega)
  obtain ⟨h5, e1, e2, e3, e4, e5⟩ := fFillI (N := N) 6 (D + 5) 100 h4 (by omega) (by omega)
  refine ⟨h5, ?_, ?_, ?_, fun k hk => ?_, fun k hk => ⟨?_, ?_, ?_⟩, ?_⟩
  · unfold f_Land_clear
    dsimp only
    rw [a1, bnd_some, b1, bnd_some, c1, bnd_some, d1, bnd_some, e1, bnd_some]
  · rw [e2, if_neg (by omega), d2, if_neg (by omega), c2, if_neg (by omega), b2, if_neg (by omega), a2, if_neg (by omega), gI_sI, if_neg (by omega), gI_sI, if_pos ⟨rfl, rfl⟩]
  · rw [e2, if_neg (by omega), d2, if_neg (by omega), c2, if_neg (by omega), b2, if_neg (by omega), a2, if_neg (by omega), gI_sI, if_pos ⟨rfl, rfl⟩]
  · rw [e2, if_neg (by omega), d2, if_neg (by omega), c2, if_neg (by omega), b2, if_neg (by omega), a2, if_pos ⟨rfl, hk⟩]
  · rw [e2, if_neg (by omega), d2, if_neg (by omega), c2, if_neg (by omega), b2, if_pos ⟨rfl, hk⟩]
  · rw [e2, if_neg (by omega), d2, if_pos ⟨rfl, hk⟩]
  · rw [e2, if_pos ⟨rfl, hk⟩]
  · refine ⟨by rw [e5, d5, c5, b5, a5]; rfl, fun c k w => ⟨?_, ?_, ?_⟩⟩
    · simp at w
      rw [e2, if_neg (by omega), d2, if_neg (by omega), c2, if_neg (by omega), b2, if_neg (by omega), a2, if_neg (by omega), gI_sI, if_neg (by omega), gI_sI, if_neg (by omega)]
    · rw [e3, d3, c3, b3, a3]; rfl
    · rw [e4, d4, c4, b4, a4]; rfl
/-- the class, up to the first token -/
theorem clsInit {N : Nat} (hN : 100 < N) {D n : Nat} (hD : D = 5 ∨ D = 54) {h : MH} (e9 : gR h 3 9 = D) : ∃ h', f_Reader_readParts N (nI n) h = (f_Reader_advance N h').bind (fun x10 => F_Reader_readParts_55 N (L_Reader_readParts N N) 0 x10) ∧ Fr (wGS D) h h' ∧ gI h' 3 1 = 0 ∧ gI h' 3 2 = nI n ∧ gI h' 3 5 = nI 0 ∧ gI h' 3 7 = 0 ∧ gI h' 3 8 = -1 ∧ gJ h' 3 11 = nJ 0 ∧ gI h' 3 12 = nI 0 ∧ gI h' 11 4 = nI 0 ∧ gI h' D 0 = nI 0 ∧ gI h' D 1 = nI 0 ∧ (∀ k, k < 48 → gI h' (D + 1) k = 0) ∧ (∀ k, k < 6 → gI h' (D + 2) k = 0 ∧ gI h' (D + 4) k = 100 ∧ gI h' (D + 5) k = 100) := by
  obtain ⟨h6, a1, a2, a3, a4, a5, a6⟩ := eClear (N := N) hN (D := D) (sI (sI (sI (sI (sI h 3 2 (nI n)) 3 1 0) 3 5 0) 3 7 0) 3 8 (-1))
  have w3 : (decide (D ≤ 3) && decide (3 ≤ D + 5)) = false := by simp; omega
  refine ⟨sI (sJ (sI h6 11 4 0) 3 11 0) 3 12 0, ?_, ?_, ?_, ?_, ?_, ?_, ?_, rfl, rfl, rfl, ?_, ?_, fun k hk => ?_, fun k hk => ?_⟩
  · unfold f_Reader_readParts F_Reader_readParts_0 f_Names_clear
    dsimp only
    have e9' : gR (sI (sI (sI (sI (sI h 3 2 (nI n)) 3 1 0) 3 5 0) 3 7 0) 3 8 (-1)) 3 9 = D := e9
    rw [e9', a1, bnd_some, bnd_some]
  · have f1 : Fr (wGS D) h (sI (sI (sI (sI (sI h 3 2 (nI n)) 3 1 0) 3 5 0) 3 7 0) 3 8 (-1)) := ((((Fr.rfl.sI 3 2 _ rfl).sI 3 1 _ rfl).sI 3 5 _ rfl).sI 3 7 _ rfl).sI 3 8 _ rfl
    exact (((f1.trans (a6.mono (fun c k w => by unfold wGS at w; simp at w ⊢; omega))).sI 11 4 _ rfl).sJ 3 11 _ rfl).sI 3 12 _ rfl
  · show gI h6 3 1 = 0
    rw [a6.i 3 1 w3]; rfl
  · show gI h6 3 2 = _
    rw [a6.i 3 2 w3]; rfl
  · show gI h6 3 5 = _
    rw [a6.i 3 5 w3]; rfl
  · show gI h6 3 7 = _
    rw [a6.i 3 7 w3]; rfl
  · show gI h6 3 8 = _
    rw [a6.i 3 8 w3]; rfl
  · rw [← show (0 : Int32) = nI 0 from rfl, ← a2]
    rcases hD with rfl | rfl <;> rfl
  · rw [← show (0 : Int32) = nI 0 from rfl, ← a3]
    rcases hD with rfl | rfl <;> rfl
  · rw [← a4 k hk]
    rcases hD with rfl | rfl <;> rfl
  · obtain ⟨q1, q2, q3⟩ := a5 k hk
    refine ⟨?_, ?_, ?_⟩
    · rw [← q1]; rcases hD with rfl | rfl <;> rfl
    · rw [← q2]; rcases hD with rfl | rfl <;> rfl
    · rw [← q3]; rcases hD with rfl | rfl <;> rfl
def w73 (c _k : Nat) : Bool := c == 73
def w82 (c _k : Nat) : Bool := c == 82
def w84 (c _k : Nat) : Bool := c == 81 || c == 84
def ini8 (h : MH) : MH := sI (sI (sI (sI (sI (sI (sI (sI h 68 8 0) 68 16 0) 68 15 (-1)) 68 12 0) 68 28 0) 68 29 0) 68 30 0) 68 31 0
theorem lCopy {N n : Nat} (n6 : n ≤ 600) {h0 : MH} (hb : ∀ k, k < n → -128 ≤ (gI h0 72 k).toInt ∧ (gI h0 72 k).toInt ≤ 127) : ∀ (d k f : Nat) (h : MH), k + d = n → d < f → Fr w73 h0 h → (∀ j, j < k → gI h 73 j = gI h0 72 j) → ∃ f' h', f ≤ f' + d + 1 ∧ (L_M_land N f).1 (nI n) (nI k) h = F_M_land_90 N (L_M_land N f') 0 (ini8 h') ∧ Fr w73 h0 h' ∧ ∀ j, j < n → gI h' 73 j = gI h0 72 j := by
  intro d
  induction d with
  | zero =>
    intro k f h hd hf fr ev
    obtain ⟨f, rfl⟩ : ∃ z, f = z + 1 := ⟨f - 1, by omega⟩
    refine ⟨f, h, by omega, ?_, fr, fun j hj => ev j (by omega)⟩
    show F_M_land_25 N (L_M_land N f) _ _ h = _
    unfold F_M_land_25
    rw [if_pos (by rw [nN_le (by omega) (by omega)]; omega)]
    rfl
  | succ d ih =>
    intro k f h hd hf fr ev
    obtain ⟨f, rfl⟩ : ∃ z, f = z + 1 := ⟨f - 1, by omega⟩
    have ib : inB (nI k) 600 = true := by rw [inB_nI (by omega)]; omega
    have e72 : gI h 72 k = gI h0 72 k := fr.i 72 k rfl
    obtain ⟨f', h', a1, a2, a3, a4⟩ := ih (k + 1) f (sI h 73 k (gI h0 72 k)) (by omega) (by omega) (fr.sI 73 k _ rfl) (fun j hj => by
      rw [gI_sI]
      by_cases z : j = k
      · rw [if_pos ⟨rfl, z⟩, z]
      · rw [if_neg (by omega)]; exact ev j (by omega))
    refine ⟨f', h', by omega, ?_, a3, a4⟩
    rw [← a2]
    show F_M_land_25 N (L_M_land N f) _ _ h = _
    unfold F_M_land_25
    rw [if_neg (by rw [nN_le (by omega) (by omega)]; omega), if_pos ib, if_pos ib, iN_nI (by omega), e72, (byte_ok (hb k (by omega))).2.2.2, show nI k + 1 = nI (k + 1) from nN_add k 1]
theorem lNear0 {N : Nat} {h0 : MH} : ∀ (d k f : Nat) (h : MH), k + d = 36 → d < f → Fr w82 h0 h → (∀ j, j < k → gI h 82 j = 0) → ∃ f' h', f ≤ f' + d + 1 ∧ (L_M_land N f).2.1 (nI k) h = F_M_land_111 N (L_M_land N f') 0 h' ∧ Fr w82 h0 h' ∧ ∀ j, j < 36 → gI h' 82 j = 0 := by
  intro d
  induction d with
  | zero =>
    intro k f h hd hf fr ev
    obtain ⟨f, rfl⟩ : ∃ z, f = z + 1 := ⟨f - 1, by omega⟩
    refine ⟨f, h, by omega, ?_, fr, fun j hj => ev j (by omega)⟩
    show F_M_land_90 N (L_M_land N f) _ h = _
    unfold F_M_land_90
    rw [show (36 : Int32) = nI 36 from rfl, if_pos (by rw [nN_le (by omega) (by omega)]; omega)]
  | succ d ih =>
    intro k f h hd hf fr ev
    obtain ⟨f, rfl⟩ : ∃ z, f = z + 1 := ⟨f - 1, by omega⟩
    have ib : inB (nI k) 36 = true := by rw [inB_nI (by omega)]; omega
    obtain ⟨f', h', a1, a2, a3, a4⟩ := ih (k + 1) f (sI h 82 k 0) (by omega) (by omega) (fr.sI 82 k _ rfl) (fun j hj => by
      rw [gI_sI]
      by_cases z : j = k
      · rw [if_pos ⟨rfl, z⟩]
      · rw [if_neg (by omega)]; exact ev j (by omega))
    refine ⟨f', h', by omega, ?_, a3, a4⟩
    rw [← a2]
    show F_M_land_90 N (L_M_land N f) _ h = _
    unfold F_M_land_90
    rw [show (36 : Int32) = nI 36 from rfl, if_neg (by rw [nN_le (by omega) (by omega)]; omega), if_pos ib, iN_nI (by omega), show nI k + 1 = nI (k + 1) from nN_add k 1, show (0 : Int32) &&& 1 = 0 from rfl]
theorem lMoves0 {N : Nat} {h0 : MH} : ∀ (d k f : Nat) (h : MH), k + d = 48 → d < f → Fr w84 h0 h → (∀ j, j < k → gI h 81 j = 0 ∧ gI h 84 j = 0) → ∃ f' h', f ≤ f' + d + 1 ∧ (L_M_land N f).2.2.1 (nI k) h = ((f_M_next N h').bind (fun x16 => if (gI x16 68 10) = 0 then (F_M_land_154 N (L_M_land N f') 0 x16) else (F_M_land_154 N (L_M_land N f') 1 x16))) ∧ Fr w84 h0 h' ∧ ∀ j, j < 48 → gI h' 81 j = 0 ∧ gI h' 84 j = 0 := by
  intro d
  induction d with
  | zero =>
    intro k f h hd hf fr ev
    obtain ⟨f, rfl⟩ : ∃ z, f = z + 1 := ⟨f - 1, by omega⟩
    refine ⟨f, h, by omega, ?_, fr, fun j hj => ev j (by omega)⟩
    show F_M_land_111 N (L_M_land N f) _ h = _
    unfold F_M_land_111
    rw [show (48 : Int32) = nI 48 from rfl, if_pos (by rw [nN_le (by omega) (by omega)]; omega)]
  | succ d ih =>
    intro k f h hd hf fr ev
    obtain ⟨f, rfl⟩ : ∃ z, f = z + 1 := ⟨f - 1, by omega⟩
    have ib : inB (nI k) 48 = true := by rw [inB_nI (by omega)]; omega
    obtain ⟨f', h', a1, a2, a3, a4⟩ := ih (k + 1) f (sI (sI h 84 k 0) 81 k 0) (by omega) (by omega) ((fr.sI 84 k _ rfl).sI 81 k _ rfl) (fun j hj => by
      by_cases z : j = k
      · subst z
        exact ⟨by rw [gI_sI, if_pos ⟨rfl, rfl⟩], by
          show gI (sI h 84 j 0) 84 j = 0
          rw [gI_sI, if_pos ⟨rfl, rfl⟩]⟩
      · obtain ⟨u, v⟩ := ev j (by omega)
        exact ⟨by
          rw [gI_sI, if_neg (by omega)]; exact u, by
          show gI (sI h 84 k 0) 84 j = 0
          rw [gI_sI, if_neg (by omega)]; exact v⟩)
    refine ⟨f', h', by omega, ?_, a3, a4⟩
    rw [← a2]
    show F_M_land_111 N (L_M_land N f) _ h = _
    unfold F_M_land_111
    rw [show (48 : Int32) = nI 48 from rfl, if_neg (by rw [nN_le (by omega) (by omega)]; omega), if_pos ib, iN_nI (by omega), show nI k + 1 = nI (k + 1) from nN_add k 1, show (0 : Int32) &&& 1 = 0 from rfl, if_pos ib]
/-- the reference, up to the first token -/
theorem refInit {N n : Nat} (hN : 3000 < N) (n6 : n ≤ 600) {hM : MH} (hb : ∀ k, k < n → -128 ≤ (gI hM 72 k).toInt ∧ (gI hM 72 k).toInt ≤ 127) : ∃ f' h', N ≤ f' + 700 ∧ F_M_land_25 N (L_M_land N N) (nI n) 0 (sI hM 68 9 (nI n)) = ((f_M_next N h').bind (fun x16 => if (gI x16 68 10) = 0 then (F_M_land_154 N (L_M_land N f') 0 x16) else (F_M_land_154 N (L_M_land N f') 1 x16))) ∧ Fr wGM hM h' ∧ gI h' 68 8 = nI 0 ∧ gI h' 68 9 = nI n ∧ gI h' 68 12 = nI 0 ∧ gI h' 68 15 = -1 ∧ gI h' 68 16 = 0 ∧ gI h' 68 28 = nI 0 ∧ gI h' 68 29 = nI 0 ∧ gI h' 68 30 = nI 0 ∧ gI h' 68 31 = nI 0 ∧ (∀ k, k < n → gI h' 73 k = gI hM 72 k) ∧ (∀ k, k < 36 → gI h' 82 k = 0) ∧ (∀ k, k < 48 → gI h' 81 k = 0 ∧ gI h' 84 k = 0) := by
  obtain ⟨f1, h1, a1, a2, a3, a4⟩ := lCopy (N := N) n6 (h0 := sI hM 68 9 (nI n)) hb n 0 (N + 1) (sI hM 68 9 (nI n)) (by omega) (by omega) Fr.rfl (fun j hj => absurd hj (Nat.not_lt_zero _))
  obtain ⟨f2, h2, b1, b2, b3, b4⟩ := lNear0 (N := N) (h0 := ini8 h1) 36 0 (f1 + 1) (ini8 h1) (by omega) (by omega) Fr.rfl (fun j hj => absurd hj (Nat.not_lt_zero _))
  obtain ⟨f3, h3, c1, c2, c3, c4⟩ := lMoves0 (N := N) (h0 := h2) 48 0 (f2 + 1) h2 (by omega) (by omega) Fr.rfl (fun j hj => absurd hj (Nat.not_lt_zero _))
  have i8 : Fr wGM h1 (ini8 h1) := (((((((Fr.rfl.sI 68 8 _ rfl).sI 68 16 _ rfl).sI 68 15 _ rfl).sI 68 12 _ rfl).sI 68 28 _ rfl).sI 68 29 _ rfl).sI 68 30 _ rfl).sI 68 31 _ rfl
  have fr : Fr wGM hM h3 := (((Fr.rfl.sI 68 9 _ rfl).trans (a3.mono (fun c k w => by unfold wGM at w; unfold w73; simp at w ⊢; omega))).trans i8).trans ((b3.mono (fun c k w => by unfold wGM at w; unfold w82; simp at w ⊢; omega)).trans (c3.mono (fun c k w => by unfold wGM at w; unfold w84; simp at w ⊢; omega)))
  have e68 : ∀ k, gI h3 68 k = gI (ini8 h1) 68 k := fun k => by rw [c3.i 68 k rfl, b3.i 68 k rfl]
  refine ⟨f3, h3, by omega, ?_, fr, ?_, ?_, ?_, ?_, ?_, ?_, ?_, ?_, ?_, fun k hk => ?_, fun k hk => ?_, c4⟩
  · have a2' : F_M_land_25 N (L_M_land N N) (nI n) 0 (sI hM 68 9 (nI n)) = _ := a2
    have b2' : F_M_land_90 N (L_M_land N f1) 0 (ini8 h1) = _ := b2
    have c2' : F_M_land_111 N (L_M_land N f2) 0 h2 = _ := c2
    rw [a2', b2', c2']
  · rw [e68]; rfl
  · rw [e68]
    show gI h1 68 9 = _
    rw [a3.i 68 9 rfl]; rfl
  · rw [e68]; rfl
  · rw [e68]; rfl
  · rw [e68]; rfl
  · rw [e68]; rfl
  · rw [e68]; rfl
  · rw [e68]; rfl
  · rw [e68]; rfl
  · rw [c3.i 73 k rfl, b3.i 73 k rfl]
    show gI h1 73 k = _
    rw [a4 k hk]; rfl
  · rw [c3.i 82 k rfl]; exact b4 k hk
