/-! LAND: sums: the class by recursion, the reference by a stack -/
def wQ (om br c k : Nat) : Bool := wF c k || (c == 68 && (k == 45 || k == 46)) || ((90 ≤ c && c ≤ 93) && br < k) || (c == 94 && om ≤ k)
def wQi (om br c k : Nat) : Bool := wQ om br c k || ((c == 91 || c == 92) && br ≤ k)
def wQs (om br c k : Nat) : Bool := wQ om br c k || ((90 ≤ c && c ≤ 93) && br ≤ k)
theorem wQ_R {om br c k : Nat} (h : wRd c k = false) : wQ om br c k = false := by
  unfold wRd wS5 at h; unfold wQ wF; simp at h ⊢; omega
theorem wQ_i {om br c k : Nat} (h : wQi om br c k = false) : wQ om br c k = false := by
  unfold wQi at h; simp at h; simp [h.1]
theorem wQi_s {om br c k : Nat} (h : wQs om br c k = false) : wQi om br c k = false := by
  unfold wQs at h; unfold wQi; simp at h ⊢; refine ⟨h.1, ?_⟩; have := h.2; omega
theorem wQs_R {om br c k : Nat} (h : wRd c k = false) : wQs om br c k = false := by
  have := wQ_R (om := om) (br := br) h
  unfold wRd wS5 at h; unfold wQs; simp at h ⊢; refine ⟨this, ?_⟩; omega
theorem wQi_R {om br c k : Nat} (h : wRd c k = false) : wQi om br c k = false := wQi_s (wQs_R h)
theorem wQs_in {om br c k : Nat} (h : wQ om br c k = false) : wQs (om + 1) (br + 1) c k = false := by
  unfold wQ wF at h; unfold wQs wQ wF; simp at h ⊢; omega
theorem wQ_in {om br c k : Nat} (h : wQ om br c k = false) : wQ (om + 1) br c k = false := by
  unfold wQ wF at h; unfold wQ wF; simp at h ⊢; omega
theorem wN_Q {om br c k : Nat} (h : wQ om br c k = false) : wN c k = false := by
  unfold wQ at h; simp at h; exact wN_F h.1.1.1
/-- both sides have read something that ends in a token behind it, or both have failed -/
def BadO (N n : Nat) (B : Nat → Nat) (hS' hM : MH) (f : Nat) : Prop := ∃ r hM', (L_M_sum N f).1 hM = some (r, hM') ∧ PD n B hS' hM' r ∧ Fr wRd hM hM'
def AtO (N n : Nat) (B : Nat → Nat) (om br : Nat) (hS hM : MH) (t : Nat × Nat × Nat × Nat) (f : Nat) (s : Option (Int64 × MH)) : Prop := ∃ v hS', s = some (v, hS') ∧ Fr wTk hS hS' ∧ ((∃ hM' t' f', (L_M_sum N f).1 hM = (L_M_sum N f').2.2 v 1 hM' ∧ LV n B hS' hM' t' ∧ t.2.1 < t'.2.1 ∧ Fr (wQ om br) hM hM' ∧ gI hM' 68 45 = nI om ∧ gI hM' 68 46 = nI br ∧ f + 2 ≤ f' + 4 * (t'.2.1 - t.2.1)) ∨ BadO N n B hS' hM f)
def ItO (N n : Nat) (B : Nat → Nat) (om br : Nat) (hS hM : MH) (t : Nat × Nat × Nat × Nat) (f : Nat) (s : Option (Int64 × MH)) : Prop := ∃ v hS', s = some (v, hS') ∧ Fr wTk hS hS' ∧ ((∃ hM' t' f' a1, (L_M_sum N f).1 hM = F_M_sum_294 N (L_M_sum N f') a1 1 (if gI hM 93 br = 0 then v else -v) (gJ hM 90 br) (nI br) hM' ∧ LV n B hS' hM' t' ∧ t'.1 ≠ 1 ∧ t.2.1 < t'.2.1 ∧ Fr (wQi om br) hM hM' ∧ gI hM' 68 45 = nI om ∧ gI hM' 68 46 = nI br ∧ f + 1 ≤ f' + 4 * (t'.2.1 - t.2.1)) ∨ BadO N n B hS' hM f)
def SuO (N n : Nat) (B : Nat → Nat) (om br : Nat) (hS hM : MH) (t : Nat × Nat × Nat × Nat) (f : Nat) (s : Option (Int64 × MH)) : Prop := ∃ v hS', s = some (v, hS') ∧ Fr wTk hS hS' ∧ ((∃ hM' t' f', (L_M_sum N f).1 hM = TL N (L_M_sum N f') 1 hM' ∧ gJ hM' 90 br = v ∧ LV n B hS' hM' t' ∧ t'.1 ≠ 1 ∧ t.2.1 < t'.2.1 ∧ Fr (wQs om br) hM hM' ∧ gI hM' 68 45 = nI om ∧ gI hM' 68 46 = nI br ∧ f ≤ f' + 4 * (t'.2.1 - t.2.1)) ∨ BadO N n B hS' hM f)
def AtomOK (N n : Nat) (B : Nat → Nat) (d : Nat) : Prop := ∀ (om br : Nat) (hS hM : MH) (t : Nat × Nat × Nat × Nat) (f : Nat), d + om = 8 → om ≤ 6 → br ≤ om → LV n B hS hM t → gI hM 68 45 = nI om → gI hM 68 46 = nI br → 4 * (n - t.2.1) + 20 ≤ f → AtO N n B om br hS hM t f (f_Reader_readAtom N d (nI om) hS)
def ItemOK (N n : Nat) (B : Nat → Nat) (d : Nat) : Prop := ∀ (om br : Nat) (hS hM : MH) (t : Nat × Nat × Nat × Nat) (f : Nat), d + om = 8 → om ≤ 6 → br ≤ om → LV n B hS hM t → gI hM 68 45 = nI om → gI hM 68 46 = nI br → (om = 0 ∨ gI hM 94 (om - 1) = 1) → gI hM 92 br = 0 → 4 * (n - t.2.1) + 20 ≤ f → ItO N n B om br hS hM t f (f_Reader_readItem N d (nI om) hS)
def SumOK (N n : Nat) (B : Nat → Nat) (d : Nat) : Prop := ∀ (om br : Nat) (hS hM : MH) (t : Nat × Nat × Nat × Nat) (f : Nat), d + om = 8 → om ≤ 6 → br ≤ om → LV n B hS hM t → gI hM 68 45 = nI om → gI hM 68 46 = nI br → (om = 0 ∨ gI hM 94 (om - 1) = 1) → gI hM 92 br = 0 → gI hM 93 br = 0 → gJ hM 90 br = 0 → 4 * (n - t.2.1) + 20 ≤ f → SuO N n B om br hS hM t f (f_Reader_readSum N d (nI om) hS)
/-- at a stack whose top is no -, the reference goes on with the item -/
theorem e152 {N : Nat} {hM : MH} {om br : Nat} (ho : om ≤ 7) (hb : br < 8) (e45 : gI hM 68 45 = nI om) (e46 : gI hM 68 46 = nI br) (top : om = 0 ∨ gI hM 94 (om - 1) = 1) (f : Nat) (v : Int64) : (L_M_sum N (f + 1)).2.2 v 1 hM = F_M_sum_225 N (L_M_sum N f) v 1 (if gI hM 92 br = 0 then v else gJ hM 91 br * v) (nI br) hM := by
  show F_M_sum_152 N (L_M_sum N f) v 1 hM = _
  unfold F_M_sum_152
  rw [e45]
  by_cases z : om = 0
  · rw [if_pos (by rw [z]; decide), e190 hb e46]
  · obtain ⟨q, rfl⟩ : ∃ q, om = q + 1 := ⟨om - 1, by omega⟩
    have tp : gI hM 94 q = 1 := by rcases top with w | w; exact absurd w z; exact w
    rw [show (0 : Int32) = nI 0 from rfl, if_neg (by rw [nN_le (by omega) (by omega)]; omega), show nI (q + 1) - 1 = nI q from nN_sub (show 1 ≤ q + 1 by omega), if_pos (by rw [inB_nI (by omega)]; omega), iN_nI (by omega), tp, if_neg (by decide), e190 hb e46]
    rfl
/-- the class has failed: its loops end -/
theorem PD_f {n : Nat} {B : Nat → Nat} {hS hM : MH} {r : Int32} (h : PD n B hS hM r) : ¬ gI hS 3 7 = 0 := by
  rcases h with ⟨-, t, l, ht⟩ | ⟨-, -, -, ⟨f, f1, f2, f3, -⟩, -⟩
  · rw [(l.2.2.2.2.2.2.2.2 ht).1]; decide
  · rw [f3, show (0 : Int32) = nI 0 from rfl, nN_inj (by omega) (by omega)]; omega
theorem lItem {N n : Nat} (hN : 2000 < N) {B : Nat → Nat} {d : Nat} (A : AtomOK N n B d) {om br : Nat} (hd : d + om = 8) (ho : om ≤ 6) (hb : br ≤ om) : ∀ (e i c f : Nat) (acc a1 : Int64) (hS hM : MH) (t : Nat × Nat × Nat × Nat), e + t.2.1 = n → i ≤ t.2.1 → e < c → LV n B hS hM t → gI hM 68 45 = nI om → gI hM 68 46 = nI br → (om = 0 ∨ gI hM 94 (om - 1) = 1) → 4 * (n - t.2.1) + 19 ≤ f →
    ∃ v hS', L_Reader_readItem N (f_Reader_readAtom N d) c (nI om) acc (nI i) hS = some (v, hS') ∧ Fr wTk hS hS' ∧ ((∃ hM' t' f' a1', F_M_sum_225 N (L_M_sum N f) a1 1 acc (nI br) hM = F_M_sum_294 N (L_M_sum N f') a1' 1 (if gI hM 93 br = 0 then v else -v) (gJ hM 90 br) (nI br) hM' ∧ LV n B hS' hM' t' ∧ t'.1 ≠ 1 ∧ t.2.1 ≤ t'.2.1 ∧ Fr (wQi om br) hM hM' ∧ gI hM' 68 45 = nI om ∧ gI hM' 68 46 = nI br ∧ f ≤ f' + 4 * (t'.2.1 - t.2.1)) ∨ (∃ r hM', F_M_sum_225 N (L_M_sum N f) a1 1 acc (nI br) hM = some (r, hM') ∧ PD n B hS' hM' r ∧ Fr wRd hM hM')) := by
  intro e
  induction e using Nat.strongRecOn with
  | _ e ih =>
    intro i c f acc a1 hS hM t he hi hc l e45 e46 top hf
    obtain ⟨c, rfl⟩ : ∃ z, c = z + 1 := ⟨c - 1, by omega⟩
    obtain ⟨x, y, g, k, m, e1, e2, e3, e4⟩ := id l
    have n6 := x.1
    have stop : ∀ (q : ¬ isg t 42 ∨ t.1 = 1), L_Reader_readItem N (f_Reader_readAtom N d) (c + 1) (nI om) acc (nI i) hS = some (acc, hS) := fun q => by
      show F_Reader_readItem_9 N _ _ (nI om) acc (nI i) hS = _
      unfold F_Reader_readItem_9
      by_cases w : (600 : Int32) ≤ nI i
      · rw [if_pos w]
      rw [if_neg w]
      by_cases p : t.1 = 1
      · rw [if_neg (by rw [(e4 p).1]; decide)]
      · rw [if_pos (e3 p).1, show (42 : Int32) = nI 42 from rfl, sgS_n x g k (by omega) (by rcases q with r | r; exact r; exact absurd r p), bnd_some]
        dsimp only
        rw [if_pos rfl]
    by_cases p : t.1 = 1
    · obtain ⟨r, hM', q1, q2, q3⟩ := pend225 (N := N) l p (show br < 8 by omega) e46 (L_M_sum N f) a1 1 acc
      exact ⟨acc, hS, stop (.inr p), Fr.rfl, .inr ⟨r, hM', q1, q2, q3⟩⟩
    by_cases s : isg t 42
    case neg =>
      refine ⟨acc, hS, stop (.inl s), Fr.rfl, .inl ⟨_, t, f, a1, e225 l (by omega) e46 s _ _ _ _, LV_s5 l ((Fr.rfl.sJ 91 br _ rfl).sI 92 br _ rfl), p, Nat.le_refl _, ?_, e45, e46, by omega⟩⟩
      exact (Fr.rfl.sJ 91 br _ (by simp [wQi])).sI 92 br _ (by simp [wQi])
    -- a * and an atom more
    have st := (g.2.2.2.2.2.2.1 s.1).2
    have lt := g.2.2.2.1 p (by rw [s.1]; decide)
    have f1 : Fr wS5 hM (sI (sJ hM 91 br acc) 92 br 1) := (Fr.rfl.sJ 91 br _ rfl).sI 92 br _ rfl
    have f1i : Fr (wQi om br) hM (sI (sJ hM 91 br acc) 92 br 1) := (Fr.rfl.sJ 91 br _ (by simp [wQi])).sI 92 br _ (by simp [wQi])
    obtain ⟨hS1, hM1, t1, b1, b2, b3, b4, b5, b6, b7⟩ := advB (N := N) hN (LV_s5 l f1) p
    obtain ⟨f, rfl⟩ : ∃ z, f = z + 1 := ⟨f - 1, by omega⟩
    have t1n := b3.2.2.1.2.1
    have e45' : gI hM1 68 45 = nI om := by rw [b5.i 68 45 rfl]; exact e45
    have e46' : gI hM1 68 46 = nI br := by rw [b5.i 68 46 rfl]; exact e46
    have ref1 : F_M_sum_225 N (L_M_sum N (f + 1)) a1 1 acc (nI br) hM = (L_M_sum N f).1 hM1 := by
      rw [e225s l (by omega) e46 s]
      show F_M_sum_148 N (L_M_sum N f) a1 0 _ = _
      unfold F_M_sum_148
      rw [if_pos rfl, b2, bnd_some]
    have fr1 : Fr wRd hM hM1 := (f1.mono (fun _ _ => w5_R)).trans (b5.mono (fun _ _ => wN_R))
    obtain ⟨v, hS2, c1, c2, c3⟩ := A om br hS1 hM1 t1 f hd ho hb b3 e45' e46' (by omega)
    have cls : L_Reader_readItem N (f_Reader_readAtom N d) (c + 1) (nI om) acc (nI i) hS = L_Reader_readItem N (f_Reader_readAtom N d) c (nI om) (acc * v) (nI (i + 1)) hS2 := by
      show F_Reader_readItem_9 N _ _ (nI om) acc (nI i) hS = _
      unfold F_Reader_readItem_9
      rw [show (600 : Int32) = nI 600 from rfl, if_neg (by rw [nN_le (by omega) (by omega)]; omega), if_pos (e3 p).1, show (42 : Int32) = nI 42 from rfl, sgS_y x g k (by omega) s, bnd_some]
      dsimp only
      rw [if_neg (by decide), b1, bnd_some, c1, bnd_some]
      dsimp only
      rw [show nI i + 1 = nI (i + 1) from nN_add i 1]
    rw [cls]
    rcases c3 with ⟨hM2, t2, f2, d1, d2, d3, d4, d5, d6, d7⟩ | ⟨r, hM2, d1, d2, d3⟩
    · have t2n := d2.2.2.1.2.1
      obtain ⟨f2, rfl⟩ : ∃ z, f2 = z + 1 := ⟨f2 - 1, by omega⟩
      have q92 : gI hM2 92 br = 1 := by
        rw [d4.i 92 br (by unfold wQ wF; simp), b5.i 92 br rfl, gI_sI, if_pos ⟨rfl, rfl⟩]
      have q91 : gJ hM2 91 br = acc := by
        rw [d4.j 91 br (by unfold wQ wF; simp), b5.j 91 br rfl]
        show gJ (sJ hM 91 br acc) 91 br = acc
        rw [gJ_sJ, if_pos ⟨rfl, rfl⟩]
      have q93 : gI hM2 93 br = gI hM 93 br := by
        rw [d4.i 93 br (by unfold wQ wF; simp), b5.i 93 br rfl]; rfl
      have q90 : gJ hM2 90 br = gJ hM 90 br := by
        rw [d4.j 90 br (by unfold wQ wF; simp), b5.j 90 br rfl]; rfl
      have top2 : om = 0 ∨ gI hM2 94 (om - 1) = 1 := by
        rcases top with w | w
        · exact .inl w
        · by_cases o : om = 0
          · exact .inl o
          · right
            rw [d4.i 94 (om - 1) (by unfold wQ wF; simp; omega), b5.i 94 (om - 1) rfl]
            exact w
      have ref2 : F_M_sum_225 N (L_M_sum N (f + 1)) a1 1 acc (nI br) hM = F_M_sum_225 N (L_M_sum N f2) v 1 (acc * v) (nI br) hM2 := by
        rw [ref1, d1, e152 (by omega) (by omega) d5 d6 top2, if_neg (by rw [q92]; decide), q91]
      obtain ⟨v', hS3, g1, g2, g3⟩ := ih (n - t2.2.1) (by omega) (i + 1) c f2 (acc * v) v hS2 hM2 t2 (by omega) (by omega) (by omega) d2 d5 d6 top2 (by omega)
      refine ⟨v', hS3, g1, b4.trans (c2.trans g2), ?_⟩
      rw [ref2]
      rcases g3 with ⟨hM3, t3, f3, a3, k1, k2, k3, k4, k5, k6, k7, k8⟩ | ⟨r, hM3, k1, k2, k3⟩
      · left
        rw [q93, q90] at k1
        exact ⟨hM3, t3, f3, a3, k1, k2, k3, by omega, (f1i.trans (b5.mono (fun _ _ w => wN_Q (wQ_i w)))).trans ((d4.mono (fun _ _ w => wQ_i w)).trans k5), k6, k7, by omega⟩
      · exact .inr ⟨r, hM3, k1, k2, fr1.trans ((d4.mono (fun _ _ => wQ_R)).trans k3)⟩
    · refine ⟨acc * v, hS2, ?_, b4.trans c2, .inr ⟨r, hM2, by rw [ref1, d1], d2, fr1.trans d3⟩⟩
      obtain ⟨c, rfl⟩ : ∃ z, c = z + 1 := ⟨c - 1, by omega⟩
      show F_Reader_readItem_9 N _ _ (nI om) _ _ hS2 = _
      unfold F_Reader_readItem_9
      by_cases w : (600 : Int32) ≤ nI (i + 1)
      · rw [if_pos w]
      · rw [if_neg w, if_neg (PD_f d2)]
theorem itemOK {N n : Nat} (hN : 2000 < N) {B : Nat → Nat} {d : Nat} (A : AtomOK N n B d) : ItemOK N n B d := by
  intro om br hS hM t f hd ho hb l e45 e46 top e92 hf
  obtain ⟨v, hS1, c1, c2, c3⟩ := A om br hS hM t f hd ho hb l e45 e46 hf
  have n6 := l.1.1
  have tn := l.2.2.1.2.1
  have cls : f_Reader_readItem N d (nI om) hS = L_Reader_readItem N (f_Reader_readAtom N d) (N + 1) (nI om) v (nI 0) hS1 := by
    show F_Reader_readItem_0 N (f_Reader_readAtom N d) _ (nI om) hS = _
    unfold F_Reader_readItem_0
    rw [c1, bnd_some]
    rfl
  rcases c3 with ⟨hM2, t2, f2, d1, d2, d3, d4, d5, d6, d7⟩ | ⟨r, hM2, d1, d2, d3⟩
  · have t2n := d2.2.2.1.2.1
    obtain ⟨f2, rfl⟩ : ∃ z, f2 = z + 1 := ⟨f2 - 1, by omega⟩
    have q92 : gI hM2 92 br = 0 := by
      rw [d4.i 92 br (by unfold wQ wF; simp)]; exact e92
    have q93 : gI hM2 93 br = gI hM 93 br := d4.i 93 br (by unfold wQ wF; simp)
    have q90 : gJ hM2 90 br = gJ hM 90 br := d4.j 90 br (by unfold wQ wF; simp)
    have top2 : om = 0 ∨ gI hM2 94 (om - 1) = 1 := by
      rcases top with w | w
      · exact .inl w
      · by_cases o : om = 0
        · exact .inl o
        · right
          rw [d4.i 94 (om - 1) (by unfold wQ wF; simp; omega)]
          exact w
    have ref2 : (L_M_sum N f).1 hM = F_M_sum_225 N (L_M_sum N f2) v 1 v (nI br) hM2 := by
      rw [d1, e152 (by omega) (by omega) d5 d6 top2, if_pos q92]
    obtain ⟨v', hS3, g1, g2, g3⟩ := lItem hN A hd ho hb (n - t2.2.1) 0 (N + 1) f2 v v hS1 hM2 t2 (by omega) (by omega) (by omega) d2 d5 d6 top2 (by omega)
    refine ⟨v', hS3, by rw [cls]; exact g1, c2.trans g2, ?_⟩
    rcases g3 with ⟨hM3, t3, f3, a3, k1, k2, k3, k4, k5, k6, k7, k8⟩ | ⟨r, hM3, k1, k2, k3⟩
    · left
      rw [q93, q90] at k1
      exact ⟨hM3, t3, f3, a3, by rw [ref2]; exact k1, k2, k3, by omega, (d4.mono (fun _ _ w => wQ_i w)).trans k5, k6, k7, by omega⟩
    · exact .inr ⟨r, hM3, by rw [ref2]; exact k1, k2, (d4.mono (fun _ _ => wQ_R)).trans k3⟩
  · refine ⟨v, hS1, ?_, c2, .inr ⟨r, hM2, d1, d2, d3⟩⟩
    rw [cls]
    show F_Reader_readItem_9 N _ _ (nI om) _ _ hS1 = _
    unfold F_Reader_readItem_9
    rw [if_neg (by decide), if_neg (PD_f d2)]
