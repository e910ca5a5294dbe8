/-! LAND: sums, when the token behind is none -/
def wS5 (c k : Nat) : Bool := (c == 68 && (45 ≤ k && k ≤ 47)) || (90 ≤ c && c ≤ 94)
def wRd (c k : Nat) : Bool := (c == 68 && ((10 ≤ k && k ≤ 16 && k != 14) || k == 39)) || wS5 c k
theorem wF_R {c k : Nat} (h : wRd c k = false) : wF c k = false := by
  unfold wRd at h; unfold wF; simp at h ⊢; omega
theorem w5_R {c k : Nat} (h : wRd c k = false) : wS5 c k = false := by
  unfold wRd at h; simp at h; simp [h.2]
theorem wN_R {c k : Nat} (h : wRd c k = false) : wN c k = false := wN_F (wF_R h)
theorem LV_s5 {n : Nat} {B : Nat → Nat} {hS hM hM' : MH} {t : Nat × Nat × Nat × Nat} (l : LV n B hS hM t) (f : Fr wS5 hM hM') : LV n B hS hM' t := LV_fr l (Fr.rfl (W := fun _ _ => false)) f (fun _ _ _ => rfl) (fun _ => rfl) (fun k h1 h2 => by unfold wS5; simp; omega) (fun _ => rfl)
/-- what a sum that fails leaves -/
def PD (n : Nat) (B : Nat → Nat) (hS hM : MH) (r : Int32) : Prop := (r = 1 ∧ ∃ t, LV n B hS hM t ∧ t.1 = 1) ∨ (r = 0 ∧ DD n B hS hM)
/-- the end of a sum -/
def TL (N : Nat) (bk : (MH → Option (Int32 × MH)) × (Int64 → Int32 → MH → Option (Int32 × MH)) × (Int64 → Int32 → MH → Option (Int32 × MH))) (a3 : Int32) (h : MH) : Option (Int32 × MH) :=
  if (gI h 68 46) = 0 then
  (if inB 0 8 = true then
  (let h28 : MH := sJ h 68 47 (gJ h 90 (iN 0))
  some (1, h28))
  else none)
  else
  ((f_M_isSign N 41 h).bind (fun x29 =>
  if x29.1 = 0 then
  ((f_M_fails N 2 x29.2).bind (fun x30 =>
  match narOK 1 x30.1 with
  | true => some (x30.1, x30.2)
  | false => none))
  else
  (if inB (gI x29.2 68 46) 8 = true then
  (let v31 : Int64 := gJ x29.2 90 (iN (gI x29.2 68 46))
  let h32 : MH := sI x29.2 68 46 ((gI x29.2 68 46) - 1)
  let h33 : MH := sI h32 68 45 ((gI h32 68 45) - 1)
  (f_M_next N h33).bind (fun x34 =>
  (bk.2.1) v31 a3 x34))
  else none)))
theorem isg1 {t : Nat × Nat × Nat × Nat} {c : Nat} (h : t.1 = 1) : ¬ isg t c := fun w => by rw [w.1] at h; omega
/-- a sum's end, with no + or - behind it -/
theorem e294 {N n : Nat} {B : Nat → Nat} {hS hM : MH} {t : Nat × Nat × Nat × Nat} (l : LV n B hS hM t) {br : Nat} (hb : br < 8) (e46 : gI hM 68 46 = nI br) (n1 : ¬ isg t 43) (n2 : ¬ isg t 45) (bk : (MH → Option (Int32 × MH)) × (Int64 → Int32 → MH → Option (Int32 × MH)) × (Int64 → Int32 → MH → Option (Int32 × MH))) (a1 : Int64) (a3 : Int32) (as0 as1 : Int64) : F_M_sum_294 N bk a1 a3 as0 as1 (nI br) hM = TL N bk a3 (sI (sJ hM 90 br (as1 + as0)) 92 br 0) := by
  have ib : inB (nI br) 8 = true := by rw [inB_nI (by omega)]; exact hb
  unfold F_M_sum_294
  rw [if_pos ib, iN_nI (by omega)]
  dsimp only
  have e46' : gI (sJ hM 90 br (as1 + as0)) 68 46 = nI br := e46
  rw [e46', if_pos ib, iN_nI (by omega), show (0 : Int32) &&& 1 = 0 from rfl]
  have l2 : LV n B hS (sI (sJ hM 90 br (as1 + as0)) 92 br 0) t := LV_s5 l ((Fr.rfl.sJ 90 br _ rfl).sI 92 br _ rfl)
  obtain ⟨-, y, g, -, m, -⟩ := id l2
  rw [show (43 : Int32) = nI 43 from rfl, sgM_n y g m (by omega) n1, bnd_some]
  dsimp only
  rw [if_pos rfl, show (45 : Int32) = nI 45 from rfl, sgM_n y g m (by omega) n2, bnd_some]
  dsimp only
  rw [if_pos rfl]
  rfl
/-- and with one -/
theorem e294s {N n : Nat} {B : Nat → Nat} {hS hM : MH} {t : Nat × Nat × Nat × Nat} (l : LV n B hS hM t) {br : Nat} (hb : br < 8) (e46 : gI hM 68 46 = nI br) (n1 : isg t 43 ∨ isg t 45) (bk : (MH → Option (Int32 × MH)) × (Int64 → Int32 → MH → Option (Int32 × MH)) × (Int64 → Int32 → MH → Option (Int32 × MH))) (a1 : Int64) (a3 : Int32) (as0 as1 : Int64) : ∃ s : Int32, ((s = 0 ∧ isg t 43) ∨ (s = 1 ∧ isg t 45)) ∧ F_M_sum_294 N bk a1 a3 as0 as1 (nI br) hM = bk.2.1 a1 0 (sI (sI (sJ hM 90 br (as1 + as0)) 92 br 0) 93 br s) := by
  have ib : inB (nI br) 8 = true := by rw [inB_nI (by omega)]; exact hb
  unfold F_M_sum_294
  rw [if_pos ib, iN_nI (by omega)]
  dsimp only
  have e46' : gI (sJ hM 90 br (as1 + as0)) 68 46 = nI br := e46
  have e46'' : gI (sI (sJ hM 90 br (as1 + as0)) 92 br 0) 68 46 = nI br := e46
  rw [e46', if_pos ib, iN_nI (by omega), show (0 : Int32) &&& 1 = 0 from rfl]
  have l2 : LV n B hS (sI (sJ hM 90 br (as1 + as0)) 92 br 0) t := LV_s5 l ((Fr.rfl.sJ 90 br _ rfl).sI 92 br _ rfl)
  obtain ⟨-, y, g, -, m, -⟩ := id l2
  by_cases p : isg t 43
  · have q : ¬ isg t 45 := fun w => by have := w.2; have := p.2; omega
    refine ⟨0, .inl ⟨rfl, p⟩, ?_⟩
    rw [show (43 : Int32) = nI 43 from rfl, sgM_y y g m (by omega) p, bnd_some]
    dsimp only
    rw [if_neg (by decide)]
    unfold F_M_sum_324
    rw [show (45 : Int32) = nI 45 from rfl, sgM_n y g m (by omega) q, bnd_some]
    dsimp only
    rw [e46'', if_pos ib, iN_nI (by omega), show (0 : Int32) &&& 1 = 0 from rfl]
  · have q : isg t 45 := by rcases n1 with w | w; exact absurd w p; exact w
    refine ⟨1, .inr ⟨rfl, q⟩, ?_⟩
    rw [show (43 : Int32) = nI 43 from rfl, sgM_n y g m (by omega) p, bnd_some]
    dsimp only
    rw [if_pos rfl, show (45 : Int32) = nI 45 from rfl, sgM_y y g m (by omega) q, bnd_some]
    dsimp only
    rw [if_neg (by decide)]
    unfold F_M_sum_324
    rw [show (45 : Int32) = nI 45 from rfl, sgM_y y g m (by omega) q, bnd_some]
    dsimp only
    rw [e46'', if_pos ib, iN_nI (by omega), show (1 : Int32) &&& 1 = 1 from rfl]
/-- an item's end: no * behind it -/
theorem e225 {N n : Nat} {B : Nat → Nat} {hS hM : MH} {t : Nat × Nat × Nat × Nat} (l : LV n B hS hM t) {br : Nat} (hb : br < 8) (e46 : gI hM 68 46 = nI br) (n1 : ¬ isg t 42) (bk : (MH → Option (Int32 × MH)) × (Int64 → Int32 → MH → Option (Int32 × MH)) × (Int64 → Int32 → MH → Option (Int32 × MH))) (a1 : Int64) (a3 : Int32) (as0 : Int64) : F_M_sum_225 N bk a1 a3 as0 (nI br) hM = F_M_sum_294 N bk a1 a3 (if gI hM 93 br = 0 then as0 else -as0) (gJ hM 90 br) (nI br) (sI (sJ hM 91 br as0) 92 br 1) := by
  have ib : inB (nI br) 8 = true := by rw [inB_nI (by omega)]; exact hb
  unfold F_M_sum_225
  rw [if_pos ib, iN_nI (by omega)]
  dsimp only
  have e46' : gI (sJ hM 91 br as0) 68 46 = nI br := e46
  have e46'' : gI (sI (sJ hM 91 br as0) 92 br 1) 68 46 = nI br := e46
  rw [e46', if_pos ib, iN_nI (by omega), show (1 : Int32) &&& 1 = 1 from rfl]
  have l2 : LV n B hS (sI (sJ hM 91 br as0) 92 br 1) t := LV_s5 l ((Fr.rfl.sJ 91 br _ rfl).sI 92 br _ rfl)
  obtain ⟨-, y, g, -, m, -⟩ := id l2
  have e91 : gJ (sI (sJ hM 91 br as0) 92 br 1) 91 br = as0 := by
    show gJ (sJ hM 91 br as0) 91 br = as0
    rw [gJ_sJ, if_pos ⟨rfl, rfl⟩]
  have e93 : gI (sI (sJ hM 91 br as0) 92 br 1) 93 br = gI hM 93 br := rfl
  have e90 : gJ (sI (sJ hM 91 br as0) 92 br 1) 90 br = gJ hM 90 br := rfl
  rw [show (42 : Int32) = nI 42 from rfl, sgM_n y g m (by omega) n1, bnd_some]
  dsimp only
  rw [if_pos rfl, e46'', if_pos ib, if_pos ib, iN_nI (by omega), e91, e93, e90]
  by_cases z : gI hM 93 br = 0
  · rw [if_pos z, if_pos z, if_pos ib]
  · rw [if_neg z, if_neg z, if_pos ib]
theorem e225s {N n : Nat} {B : Nat → Nat} {hS hM : MH} {t : Nat × Nat × Nat × Nat} (l : LV n B hS hM t) {br : Nat} (hb : br < 8) (e46 : gI hM 68 46 = nI br) (n1 : isg t 42) (bk : (MH → Option (Int32 × MH)) × (Int64 → Int32 → MH → Option (Int32 × MH)) × (Int64 → Int32 → MH → Option (Int32 × MH))) (a1 : Int64) (a3 : Int32) (as0 : Int64) : F_M_sum_225 N bk a1 a3 as0 (nI br) hM = bk.2.1 a1 0 (sI (sJ hM 91 br as0) 92 br 1) := by
  have ib : inB (nI br) 8 = true := by rw [inB_nI (by omega)]; exact hb
  unfold F_M_sum_225
  rw [if_pos ib, iN_nI (by omega)]
  dsimp only
  have e46' : gI (sJ hM 91 br as0) 68 46 = nI br := e46
  rw [e46', if_pos ib, iN_nI (by omega), show (1 : Int32) &&& 1 = 1 from rfl]
  have l2 : LV n B hS (sI (sJ hM 91 br as0) 92 br 1) t := LV_s5 l ((Fr.rfl.sJ 91 br _ rfl).sI 92 br _ rfl)
  obtain ⟨-, y, g, -, m, -⟩ := id l2
  rw [show (42 : Int32) = nI 42 from rfl, sgM_y y g m (by omega) n1, bnd_some]
  dsimp only
  rw [if_neg (by decide)]
theorem e190 {N : Nat} {hM : MH} {br : Nat} (hb : br < 8) (e46 : gI hM 68 46 = nI br) (bk : (MH → Option (Int32 × MH)) × (Int64 → Int32 → MH → Option (Int32 × MH)) × (Int64 → Int32 → MH → Option (Int32 × MH))) (a1 : Int64) (a3 : Int32) : F_M_sum_190 N bk a1 a3 hM = F_M_sum_225 N bk a1 a3 (if gI hM 92 br = 0 then a1 else gJ hM 91 br * a1) (nI br) hM := by
  have ib : inB (nI br) 8 = true := by rw [inB_nI (by omega)]; exact hb
  unfold F_M_sum_190
  rw [e46, if_pos ib, iN_nI (by omega)]
  by_cases z : gI hM 92 br = 0
  · rw [if_pos z, if_pos z]
  · rw [if_neg z, if_neg z, if_pos ib]
theorem pend225 {N n : Nat} {B : Nat → Nat} {hS hM : MH} {t : Nat × Nat × Nat × Nat} (l : LV n B hS hM t) (ht : t.1 = 1) {br : Nat} (hb : br < 8) (e46 : gI hM 68 46 = nI br) (bk : (MH → Option (Int32 × MH)) × (Int64 → Int32 → MH → Option (Int32 × MH)) × (Int64 → Int32 → MH → Option (Int32 × MH))) (a1 : Int64) (a3 : Int32) (as0 : Int64) : ∃ r hM', F_M_sum_225 N bk a1 a3 as0 (nI br) hM = some (r, hM') ∧ PD n B hS hM' r ∧ Fr wRd hM hM' := by
  rw [e225 l hb e46 (isg1 ht)]
  have f1 : Fr wS5 hM (sI (sJ hM 91 br as0) 92 br 1) := (Fr.rfl.sJ 91 br _ rfl).sI 92 br _ rfl
  rw [e294 (LV_s5 l f1) hb (by exact e46) (isg1 ht) (isg1 ht)]
  have f2 : Fr wS5 hM (sI (sJ (sI (sJ hM 91 br as0) 92 br 1) 90 br (gJ hM 90 br + if gI hM 93 br = 0 then as0 else -as0)) 92 br 0) := (f1.sJ 90 br _ rfl).sI 92 br _ rfl
  unfold TL
  have e46' : gI (sI (sJ (sI (sJ hM 91 br as0) 92 br 1) 90 br (gJ hM 90 br + if gI hM 93 br = 0 then as0 else -as0)) 92 br 0) 68 46 = nI br := e46
  rw [e46']
  by_cases z : br = 0
  · rw [if_pos (by rw [z]; rfl), if_pos (by decide)]
    exact ⟨1, _, rfl, .inl ⟨rfl, t, LV_s5 l (f2.sJ 68 47 _ rfl), ht⟩, (f2.sJ 68 47 _ rfl).mono (fun _ _ => w5_R)⟩
  · rw [if_neg (by rw [show (0 : Int32) = nI 0 from rfl, nN_inj (by omega) (by omega)]; exact z)]
    have l2 := LV_s5 l f2
    obtain ⟨-, y, g, -, m, -⟩ := id l2
    rw [show (41 : Int32) = nI 41 from rfl, sgM_n y g m (by omega) (isg1 ht), bnd_some]
    dsimp only
    obtain ⟨hS', hM', a1, a2, a3, a4, a5⟩ := failB (N := N) l2 (a := 2) (by omega) (by omega)
    have a2' : f_M_fails N 2 (sI (sJ (sI (sJ hM 91 br as0) 92 br 1) 90 br (gJ hM 90 br + if gI hM 93 br = 0 then as0 else -as0)) 92 br 0) = _ := a2
    rw [if_pos rfl, a2', bnd_some]
    refine ⟨0, hM', rfl, .inr ⟨rfl, ?_⟩, (f2.mono (fun _ _ => w5_R)).trans (a5.mono (fun _ _ => wF_R))⟩
    -- the class has failed already
    have e7 := (l.2.2.2.2.2.2.2.2 ht).1
    rw [eFail, if_neg (by rw [e7]; decide)] at a1
    have : hS = hS' := by have := Option.some.inj a1; exact (Prod.mk.inj this).2
    rw [this]; exact a3
theorem pendI {N n : Nat} {B : Nat → Nat} {hS : MH} {t : Nat × Nat × Nat × Nat} (ht : t.1 = 1) {br : Nat} (hb : br < 8) : ∀ (om f : Nat) (v : Int64) (hM : MH), LV n B hS hM t → om ≤ 7 → om < f → gI hM 68 45 = nI om → gI hM 68 46 = nI br → ∃ r hM', (L_M_sum N f).2.2 v 1 hM = some (r, hM') ∧ PD n B hS hM' r ∧ Fr wRd hM hM' := by
  intro om
  induction om with
  | zero =>
    intro f v hM l ho hf e45 e46
    obtain ⟨f, rfl⟩ : ∃ z, f = z + 1 := ⟨f - 1, by omega⟩
    show ∃ r hM', F_M_sum_152 N (L_M_sum N f) v 1 hM = _ ∧ _
    unfold F_M_sum_152
    rw [e45, if_pos (by decide), e190 hb e46]
    exact pend225 l ht hb e46 _ _ _ _
  | succ om ih =>
    intro f v hM l ho hf e45 e46
    obtain ⟨f, rfl⟩ : ∃ z, f = z + 1 := ⟨f - 1, by omega⟩
    show ∃ r hM', F_M_sum_152 N (L_M_sum N f) v 1 hM = _ ∧ _
    unfold F_M_sum_152
    rw [e45, show (0 : Int32) = nI 0 from rfl, if_neg (by rw [nN_le (by omega) (by omega)]; omega), show nI (om + 1) - 1 = nI om from nN_sub (show 1 ≤ om + 1 by omega), if_pos (by rw [inB_nI (by omega)]; omega), iN_nI (by omega)]
    by_cases z : gI hM 94 om = 2
    · rw [if_pos z]
      have f1 : Fr wS5 hM (sI hM 68 45 (nI om)) := Fr.rfl.sI 68 45 _ rfl
      obtain ⟨r, hM', q1, q2, q3⟩ := ih f (-v) (sI hM 68 45 (nI om)) (LV_s5 l f1) (by omega) (by omega) rfl e46
      exact ⟨r, hM', q1, q2, (f1.mono (fun _ _ => w5_R)).trans q3⟩
    · rw [if_neg z, e190 hb e46]
      exact pend225 l ht hb e46 _ _ _ _
