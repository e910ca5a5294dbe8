/-! LAND: sheets -/
theorem NR_sheet {n : Nat} {B : Nat → Nat} {hS hM hS' hM' : MH} {S ns nm nc a b c : Nat} {ST SP : Nat → Nat} (r : NR n B hS hM S ns nm nc ST SP) (c1 : 1 ≤ c) (c6 : nc + c ≤ 6) (hab : a < b ∧ b ≤ n ∧ b ≤ a + 8 ∧ ∀ j, a ≤ j → j < b → 97 ≤ B j ∧ B j < 128) (hv : ∀ i, i < S → NV B ST SP i ≠ nvf B a (b - a)) (e11 : gI hS' 11 4 = nI (S + 1)) (e12 : ∀ k, gI hS' 12 k = if k = S then nI a else gI hS 12 k) (e13 : ∀ k, gI hS' 13 k = if k = S then nI b else gI hS 13 k) (e14 : ∀ k, gI hS' 14 k = if k = S then nI nc else gI hS 14 k) (e15 : ∀ k, gI hS' 15 k = if k = S then nI c else gI hS 15 k) (f28 : gI hM' 68 28 = nI (ns + 1)) (f30 : gI hM' 68 30 = gI hM 68 30) (f74 : ∀ k, gJ hM' 74 k = if k = ns then nJ (nvf B a (b - a)) else gJ hM 74 k) (f75 : ∀ k, gJ hM' 75 k = gJ hM 75 k) (f76 : ∀ k, gI hM' 76 k = if k = ns then nI nc else gI hM 76 k) (f77 : ∀ k, gI hM' 77 k = if k = ns then nI c else gI hM 77 k) : NR n B hS' hM' (S + 1) (ns + 1) nm (nc + c) (updN ST S a) (updN SP S b) := by
  obtain ⟨⟨r1, r2, r3, r4, r5, r6, r7⟩, ri, rk, rs, rm, ru, rc⟩ := r
  have olds : ∀ i s, i < S → s < ns → NRs B hS hM ST SP i s → NRs B hS' hM' (updN ST S a) (updN SP S b) i s := fun i s hi hs q => by
    unfold NRs
    rw [e14, e15, f74, f76, f77, if_neg (by omega), if_neg (by omega), if_neg (by omega), if_neg (by omega), if_neg (by omega), NV_upd (by omega)]; exact q
  have oldm : ∀ i s, i < S → NRm B hS hM ST SP i s → NRm B hS' hM' (updN ST S a) (updN SP S b) i s := fun i s hi q => by
    unfold NRm
    rw [e14, e15, f75, if_neg (by omega), if_neg (by omega), NV_upd (by omega)]; exact q
  have news : NRs B hS' hM' (updN ST S a) (updN SP S b) S ns := by
    unfold NRs
    rw [e14, e15, f74, f76, f77, if_pos rfl, if_pos rfl, if_pos rfl, if_pos rfl, if_pos rfl, NV_new]; exact ⟨rfl, rfl, rfl⟩
  refine ⟨⟨e11, by omega, f28, by rw [f30]; exact r4, by omega, c6, r7⟩, NRi_add ri e12 e13 hab, fun i hi => ?_, fun s hs => ?_, fun q hq => ?_, NRu_add ru hv, fun s hs => ?_⟩
  · by_cases z : i = S
    · subst z; exact .inl ⟨ns, by omega, news⟩
    · rcases rk i (by omega) with ⟨s, s1, s2⟩ | ⟨q, q1, q2⟩
      · exact .inl ⟨s, by omega, olds i s (by omega) s1 s2⟩
      · exact .inr ⟨q, q1, oldm i q (by omega) q2⟩
  · by_cases z : s = ns
    · subst z; exact ⟨S, by omega, news⟩
    · obtain ⟨i, i1, i2⟩ := rs s (by omega)
      exact ⟨i, by omega, olds i s i1 (by omega) i2⟩
  · obtain ⟨i, i1, i2⟩ := rm q hq
    exact ⟨i, by omega, oldm i q i1 i2⟩
  · rw [f76, f77]
    by_cases z : s = ns
    · rw [if_pos z, if_pos z]
      exact ⟨nc, c, rfl, rfl, c1, by omega⟩
    · rw [if_neg z, if_neg z]
      obtain ⟨f, q, q1, q2, q3, q4⟩ := rc s (by omega)
      exact ⟨f, q, q1, q2, q3, by omega⟩
/-- the class's new cells -/
theorem eAddCells {N : Nat} (hN : 100 < N) {D nc c : Nat} (hD : D = 5 ∨ D = 54) (c6 : nc + c ≤ 6) (sv : Int32) {h : MH} (e : gI h D 0 = nI nc) : ∃ h', f_Land_addCells N D (nI c) sv h = some h' ∧ gI h' D 0 = nI (nc + c) ∧ Fr (fun a b => (a == D && b == 0) || a == D + 3) h h' ∧ ∀ k, gI h' (D + 3) k = if nc ≤ k ∧ k < nc + c then sv else gI h (D + 3) k := by
  have main : ∀ (d i f : Nat) (y : MH), i + d = c → d < f → gI y D 0 = nI (nc + i) → Fr (fun a b => (a == D && b == 0) || a == D + 3) h y → (∀ k, gI y (D + 3) k = if nc ≤ k ∧ k < nc + i then sv else gI h (D + 3) k) → ∃ h', L_Land_addCells N f D (nI c) sv (nI i) y = some h' ∧ gI h' D 0 = nI (nc + c) ∧ Fr (fun a b => (a == D && b == 0) || a == D + 3) h h' ∧ ∀ k, gI h' (D + 3) k = if nc ≤ k ∧ k < nc + c then sv else gI h (D + 3) k := by
    intro d
    induction d with
    | zero =>
      intro i f y hd hf e0 fr ev
      obtain ⟨f, rfl⟩ : ∃ z, f = z + 1 := ⟨f - 1, by omega⟩
      have : i = c := by omega
      subst this
      refine ⟨y, ?_, e0, fr, ev⟩
      show F_Land_addCells_2 N _ D _ _ _ y = _
      unfold F_Land_addCells_2
      rw [if_pos (by rw [nN_le (by omega) (by omega)]; omega)]
    | succ d ih =>
      intro i f y hd hf e0 fr ev
      obtain ⟨f, rfl⟩ : ∃ z, f = z + 1 := ⟨f - 1, by omega⟩
      show ∃ h', F_Land_addCells_2 N (L_Land_addCells N f) D _ _ _ y = _ ∧ _
      unfold F_Land_addCells_2
      have e1 : gI (sI y (D + 3) (nc + i) sv) D 0 = nI (nc + i) := by rw [gI_sI, if_neg (by omega)]; exact e0
      rw [if_neg (by rw [nN_le (by omega) (by omega)]; omega), e0, show (6 : Int32) = nI 6 from rfl, if_neg (by rw [nN_le (by omega) (by omega)]; omega), if_pos (by rw [inB_nI (by omega)]; omega), iN_nI (by omega)]
      dsimp only
      rw [e1, show nI (nc + i) + 1 = nI (nc + (i + 1)) from nN_add _ 1, show nI i + 1 = nI (i + 1) from nN_add i 1]
      refine ih (i + 1) f _ (by omega) (by omega) (by rw [gI_sI, if_pos ⟨rfl, rfl⟩]) ((fr.sI (D + 3) _ _ (by simp)).sI D 0 _ (by simp)) (fun k => ?_)
      rw [gI_sI, if_neg (by omega), gI_sI, ev]
      by_cases z : k = nc + i
      · rw [if_pos ⟨rfl, z⟩, if_pos (by omega)]
      · rw [if_neg (by omega)]
        by_cases w : nc ≤ k ∧ k < nc + i
        · rw [if_pos w, if_pos (by omega)]
        · rw [if_neg w, if_neg (by omega)]
  exact main c 0 (N + 1) h (by omega) (by omega) e Fr.rfl (fun k => by rw [if_neg (by omega)])
def wSh (a b : Nat) : Bool := (a == 68 && b == 29) || (78 ≤ a && a ≤ 80) || a == 83
/-- the reference's new cells -/
theorem lSheetM {N : Nat} {nc c sv : Nat} (c6 : nc + c ≤ 6) {h : MH} (e39 : gI h 68 39 = nI sv) : ∀ (d i f : Nat) (y : MH), i + d = c → d < f → gI y 68 29 = nI (nc + i) → Fr wSh h y → (∀ k, gI y 78 k = if nc ≤ k ∧ k < nc + i then nI sv else gI h 78 k) → (∀ k, gI y 79 k = if nc ≤ k ∧ k < nc + i then 100 else gI h 79 k) → (∀ k, gI y 80 k = if nc ≤ k ∧ k < nc + i then 100 else gI h 80 k) → (∀ k, gI y 83 k = if nc ≤ k ∧ k < nc + i then 0 else gI h 83 k) →
    ∃ h', L_M_sheet N f (nI c) (nI i) y = some (1, h') ∧ gI h' 68 29 = nI (nc + c) ∧ Fr wSh h h' ∧ (∀ k, gI h' 78 k = if nc ≤ k ∧ k < nc + c then nI sv else gI h 78 k) ∧ (∀ k, gI h' 79 k = if nc ≤ k ∧ k < nc + c then 100 else gI h 79 k) ∧ (∀ k, gI h' 80 k = if nc ≤ k ∧ k < nc + c then 100 else gI h 80 k) ∧ (∀ k, gI h' 83 k = if nc ≤ k ∧ k < nc + c then 0 else gI h 83 k) := by
  intro d
  induction d with
  | zero =>
    intro i f y hd hf e0 fr v1 v2 v3 v4
    obtain ⟨f, rfl⟩ : ∃ z, f = z + 1 := ⟨f - 1, by omega⟩
    have : i = c := by omega
    subst this
    refine ⟨y, ?_, e0, fr, v1, v2, v3, v4⟩
    show F_M_sheet_201 N _ _ _ y = _
    unfold F_M_sheet_201
    rw [if_pos (by rw [nN_le (by omega) (by omega)]; omega)]
  | succ d ih =>
    intro i f y hd hf e0 fr v1 v2 v3 v4
    obtain ⟨f, rfl⟩ : ∃ z, f = z + 1 := ⟨f - 1, by omega⟩
    have ib : inB (nI (nc + i)) 6 = true := by rw [inB_nI (by omega)]; omega
    have e39' : gI y 68 39 = nI sv := by rw [fr.i 68 39 rfl]; exact e39
    show ∃ h', F_M_sheet_201 N (L_M_sheet N f) _ _ y = _ ∧ _
    unfold F_M_sheet_201
    have e1 : gI (sI y 78 (nc + i) (nI sv)) 68 29 = nI (nc + i) := e0
    have e2 : gI (sI (sI y 78 (nc + i) (nI sv)) 79 (nc + i) 100) 68 29 = nI (nc + i) := e0
    have e3 : gI (sI (sI (sI y 78 (nc + i) (nI sv)) 79 (nc + i) 100) 80 (nc + i) 100) 68 29 = nI (nc + i) := e0
    have e4 : gI (sI (sI (sI (sI y 78 (nc + i) (nI sv)) 79 (nc + i) 100) 80 (nc + i) 100) 83 (nc + i) 0) 68 29 = nI (nc + i) := e0
    rw [if_neg (by rw [nN_le (by omega) (by omega)]; omega), e0, e39', if_pos ib, iN_nI (by omega)]
    dsimp only
    rw [e1, if_pos ib, iN_nI (by omega), e2, if_pos ib, iN_nI (by omega), e3, if_pos ib, iN_nI (by omega), show (0 : Int32) &&& 1 = 0 from rfl, e4, show nI (nc + i) + 1 = nI (nc + (i + 1)) from nN_add _ 1, show nI i + 1 = nI (i + 1) from nN_add i 1]
    have stp : ∀ (v : Int32) (g : Nat → Int32) (o : Nat → Int32), (∀ k, o k = if nc ≤ k ∧ k < nc + i then v else g k) → ∀ k, (if k = nc + i then v else o k) = if nc ≤ k ∧ k < nc + (i + 1) then v else g k := fun v g o ho k => by
      by_cases z : k = nc + i
      · rw [if_pos z, if_pos (by omega)]
      · rw [if_neg z, ho]
        by_cases w : nc ≤ k ∧ k < nc + i
        · rw [if_pos w, if_pos (by omega)]
        · rw [if_neg w, if_neg (by omega)]
    refine ih (i + 1) f _ (by omega) (by omega) rfl (((((fr.sI 78 _ _ rfl).sI 79 _ _ rfl).sI 80 _ _ rfl).sI 83 _ _ rfl).sI 68 29 _ rfl) (fun k => ?_) (fun k => ?_) (fun k => ?_) (fun k => ?_)
    · rw [← stp _ _ _ v1 k]
      show gI (sI y 78 (nc + i) (nI sv)) 78 k = _
      rw [gI_sI]
      by_cases z : k = nc + i
      · rw [if_pos ⟨rfl, z⟩, if_pos z]
      · rw [if_neg (by omega), if_neg z]
    · rw [← stp _ _ _ v2 k]
      show gI (sI (sI y 78 (nc + i) (nI sv)) 79 (nc + i) 100) 79 k = _
      rw [gI_sI]
      by_cases z : k = nc + i
      · rw [if_pos ⟨rfl, z⟩, if_pos z]
      · rw [if_neg (by omega), if_neg z]; rfl
    · rw [← stp _ _ _ v3 k]
      show gI (sI (sI (sI y 78 (nc + i) (nI sv)) 79 (nc + i) 100) 80 (nc + i) 100) 80 k = _
      rw [gI_sI]
      by_cases z : k = nc + i
      · rw [if_pos ⟨rfl, z⟩, if_pos z]
      · rw [if_neg (by omega), if_neg z]; rfl
    · rw [← stp _ _ _ v4 k]
      show gI (sI (sI (sI (sI y 78 (nc + i) (nI sv)) 79 (nc + i) 100) 80 (nc + i) 100) 83 (nc + i) 0) 83 k = _
      rw [gI_sI]
      by_cases z : k = nc + i
      · rw [if_pos ⟨rfl, z⟩, if_pos z]
      · rw [if_neg (by omega), if_neg z]; rfl
