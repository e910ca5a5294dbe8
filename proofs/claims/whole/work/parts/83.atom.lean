/-! LAND: sums: an atom, and a sum as a whole -/
theorem atomOK {N n : Nat} (hN : 2000 < N) {B : Nat → Nat} {d : Nat} (A : AtomOK N n B d) (S : SumOK N n B d) : AtomOK N n B (d + 1) := by
  intro om br hS hM t f hd ho hb l e45 e46 hf
  obtain ⟨f, rfl⟩ : ∃ z, f = z + 1 := ⟨f - 1, by omega⟩
  obtain ⟨x, y, g, k, m, e1, e2, e3, e4⟩ := id l
  have g0 := g.1
  have n6 := x.1
  have k3 : (gI hS 3 3 = 2) = (t.1 = 3) := by rw [k.1, show (2 : Int32) = nI (kc 3) from rfl, kc_eq g0 3 (by omega)]
  have m3 : (gI hM 68 10 = 3) = (t.1 = 3) := by rw [m.1, show (3 : Int32) = nI 3 from rfl, nN_inj (by omega) (by omega)]
  show AtO N n B om br hS hM t (f + 1) (g_Reader_readAtom N (f_Reader_readAtom N d, f_Reader_readSum N d) (nI om) hS)
  have eR : (L_M_sum N (f + 1)).1 hM = F_M_sum_15 N (L_M_sum N f) hM := rfl
  unfold AtO BadO
  rw [eR]
  unfold g_Reader_readAtom F_M_sum_15
  rw [if_pos e1, show (45 : Int32) = nI 45 from rfl, show (40 : Int32) = nI 40 from rfl]
  -- a - or a ( : what is common
  have deep : om = 6 → (isg t 45 ∨ isg t 40) → ∃ hS' hM', (∀ a2, F_Reader_readAtom_52 N (f_Reader_readAtom N d, f_Reader_readSum N d) (nI om) a2 hS = some (0, hS')) ∧ F_M_sum_40 N (L_M_sum N f) hM = some (0, hM') ∧ DD n B hS' hM' ∧ Fr wTk hS hS' ∧ Fr wF hM hM' := fun o _ => by
    obtain ⟨hS', hM', a1, a2, a3, a4, a5⟩ := failB (N := N) l (a := 5) (by omega) (by omega)
    have a1' : f_Reader_fail N 5 (gI hS 3 4) hS = _ := a1
    have a2' : f_M_fails N 5 hM = _ := a2
    refine ⟨hS', hM', fun q => ?_, ?_, a3, a4, a5⟩
    · unfold F_Reader_readAtom_52
      rw [if_neg (by rw [o]; decide), a1', bnd_some]
    · unfold F_M_sum_40
      rw [e45, if_pos (by rw [o]; rfl), a2', bnd_some]
      rfl
  by_cases sm : isg t 45
  · -- a -
    have n40 : ¬ isg t 40 := fun u => by have := u.2; have := sm.2; omega
    have p : t.1 ≠ 1 := by rw [sm.1]; decide
    have lt := g.2.2.2.1 p (by rw [sm.1]; decide)
    rw [sgS_y x g k (by omega) sm, sgM_y y g m (by omega) sm, bnd_some, bnd_some]
    dsimp only
    rw [if_neg (by rw [k3, sm.1]; decide), if_neg (by decide), if_neg (by decide)]
    by_cases o : om = 6
    · obtain ⟨hS', hM', c1, c2, c3, c4, c5⟩ := deep o (.inl sm)
      exact ⟨0, hS', c1 1, c4, .inr ⟨0, hM', c2, .inr ⟨rfl, c3⟩, c5.mono (fun _ _ => wF_R)⟩⟩
    have f1 : Fr wS5 hM (sI (sI hM 94 om 2) 68 45 (nI (om + 1))) := (Fr.rfl.sI 94 om _ rfl).sI 68 45 _ rfl
    have f1q : Fr (wQ om br) hM (sI (sI hM 94 om 2) 68 45 (nI (om + 1))) := (Fr.rfl.sI 94 om _ (by simp [wQ])).sI 68 45 _ (by simp [wQ])
    have l2 := LV_s5 l f1
    obtain ⟨-, y2, g2, -, m2, -⟩ := id l2
    obtain ⟨hS1, hM1, t1, b1, b2, b3, b4, b5, b6, b7⟩ := advB (N := N) hN l2 p
    have t1n := b3.2.2.1.2.1
    have ref1 : F_M_sum_40 N (L_M_sum N f) hM = (L_M_sum N f).1 hM1 := by
      unfold F_M_sum_40 F_M_sum_77
      rw [e45, show (6 : Int32) = nI 6 from rfl, if_neg (by rw [nN_inj (by omega) (by omega)]; exact o), show (40 : Int32) = nI 40 from rfl, sgM_n y g m (by omega) n40, bnd_some]
      dsimp only
      have e45' : gI (sI hM 94 om 2) 68 45 = nI om := e45
      rw [if_pos rfl, if_pos (by rw [inB_nI (by omega)]; omega), iN_nI (by omega), e45', show nI om + 1 = nI (om + 1) from nN_add om 1, sgM_n y2 g2 m2 (by omega) n40, bnd_some]
      dsimp only
      rw [if_pos rfl, b2, bnd_some]
    obtain ⟨v, hS2, c1, c2, c3⟩ := A (om + 1) br hS1 hM1 t1 f (by omega) (by omega) (by omega) b3 (by rw [b5.i 68 45 rfl]; rfl) (by rw [b5.i 68 46 rfl]; exact e46) (by omega)
    have cls : F_Reader_readAtom_52 N (f_Reader_readAtom N d, f_Reader_readSum N d) (nI om) 1 hS = some (-v, hS2) := by
      unfold F_Reader_readAtom_52
      rw [show (6 : Int32) = nI 6 from rfl, if_pos (by rw [nN_lt (by omega) (by omega)]; omega), b1, bnd_some, if_neg (by decide), show nI om + 1 = nI (om + 1) from nN_add om 1]
      dsimp only
      rw [c1, bnd_some]
    rw [cls, ref1]
    refine ⟨-v, hS2, rfl, b4.trans c2, ?_⟩
    have fr1 : Fr wRd hM hM1 := (f1.mono (fun _ _ => w5_R)).trans (b5.mono (fun _ _ => wN_R))
    rcases c3 with ⟨hM2, t2, f2, d1, d2, d3, d4, d5, d6, d7⟩ | ⟨r, hM2, d1, d2, d3⟩
    · have t2n := d2.2.2.1.2.1
      obtain ⟨f2, rfl⟩ : ∃ z, f2 = z + 1 := ⟨f2 - 1, by omega⟩
      have q94 : gI hM2 94 om = 2 := by
        rw [d4.i 94 om (by unfold wQ wF; simp), b5.i 94 om rfl]
        show gI (sI hM 94 om 2) 94 om = 2
        rw [gI_sI, if_pos ⟨rfl, rfl⟩]
      have f3 : Fr wS5 hM2 (sI hM2 68 45 (nI om)) := Fr.rfl.sI 68 45 _ rfl
      refine .inl ⟨sI hM2 68 45 (nI om), t2, f2, ?_, LV_s5 d2 f3, by omega, ?_, rfl, d6, by omega⟩
      · rw [d1]
        show F_M_sum_152 N (L_M_sum N f2) v 1 hM2 = _
        unfold F_M_sum_152
        rw [d5, show (0 : Int32) = nI 0 from rfl, if_neg (by rw [nN_le (by omega) (by omega)]; omega), show nI (om + 1) - 1 = nI om from nN_sub (show 1 ≤ om + 1 by omega), if_pos (by rw [inB_nI (by omega)]; omega), iN_nI (by omega), if_pos q94]
      · exact (f1q.trans (b5.mono (fun _ _ w => wN_Q w))).trans ((d4.mono (fun _ _ w => wQ_in w)).trans (Fr.rfl.sI 68 45 _ (by simp [wQ])))
    · exact .inr ⟨r, hM2, d1, d2, fr1.trans d3⟩
  rw [sgS_n x g k (by omega) sm, sgM_n y g m (by omega) sm, bnd_some, bnd_some]
  dsimp only
  rw [if_pos rfl, if_pos rfl]
  by_cases so : isg t 40
  · -- a (
    have p : t.1 ≠ 1 := by rw [so.1]; decide
    have lt := g.2.2.2.1 p (by rw [so.1]; decide)
    rw [if_neg (show ¬ gI hS 3 3 = 2 by rw [k3, so.1]; decide), sgS_y x g k (by omega) so, sgM_y y g m (by omega) so, bnd_some, bnd_some]
    dsimp only
    rw [if_neg (by decide), if_neg (by decide)]
    by_cases o : om = 6
    · obtain ⟨hS', hM', c1, c2, c3, c4, c5⟩ := deep o (.inr so)
      exact ⟨0, hS', c1 0, c4, .inr ⟨0, hM', c2, .inr ⟨rfl, c3⟩, c5.mono (fun _ _ => wF_R)⟩⟩
    have f1 : Fr wS5 hM (sI (sI (sJ (sI (sI (sI hM 94 om 1) 68 45 (nI (om + 1))) 68 46 (nI (br + 1))) 90 (br + 1) 0) 92 (br + 1) 0) 93 (br + 1) 0) := (((((Fr.rfl.sI 94 om _ rfl).sI 68 45 _ rfl).sI 68 46 _ rfl).sJ 90 (br + 1) _ rfl).sI 92 (br + 1) _ rfl).sI 93 (br + 1) _ rfl
    have f1q : Fr (wQ om br) hM (sI (sI (sJ (sI (sI (sI hM 94 om 1) 68 45 (nI (om + 1))) 68 46 (nI (br + 1))) 90 (br + 1) 0) 92 (br + 1) 0) 93 (br + 1) 0) := (((((Fr.rfl.sI 94 om _ (by simp [wQ])).sI 68 45 _ (by simp [wQ])).sI 68 46 _ (by simp [wQ])).sJ 90 (br + 1) _ (by simp [wQ])).sI 92 (br + 1) _ (by simp [wQ])).sI 93 (br + 1) _ (by simp [wQ])
    have l1 : LV n B hS (sI (sI hM 94 om 1) 68 45 (nI (om + 1))) t := LV_s5 l ((Fr.rfl.sI 94 om _ rfl).sI 68 45 _ rfl)
    obtain ⟨-, y1, g1, -, m1, -⟩ := id l1
    obtain ⟨hS1, hM1, t1, b1, b2, b3, b4, b5, b6, b7⟩ := advB (N := N) hN (LV_s5 l f1) p
    have t1n := b3.2.2.1.2.1
    have ib : inB (nI (br + 1)) 8 = true := by rw [inB_nI (by omega)]; omega
    have ref1 : F_M_sum_40 N (L_M_sum N f) hM = (L_M_sum N f).1 hM1 := by
      unfold F_M_sum_40 F_M_sum_77 f_M_begin
      rw [e45, show (6 : Int32) = nI 6 from rfl, if_neg (by rw [nN_inj (by omega) (by omega)]; exact o), show (40 : Int32) = nI 40 from rfl, sgM_y y g m (by omega) so, bnd_some]
      dsimp only
      have e45' : gI (sI hM 94 om 1) 68 45 = nI om := e45
      rw [if_neg (by decide), if_pos (by rw [inB_nI (by omega)]; omega), iN_nI (by omega), e45', show nI om + 1 = nI (om + 1) from nN_add om 1, sgM_y y1 g1 m1 (by omega) so, bnd_some]
      dsimp only
      have e46' : gI (sI (sI hM 94 om 1) 68 45 (nI (om + 1))) 68 46 = nI br := e46
      have e46'' : gI (sI (sI (sI hM 94 om 1) 68 45 (nI (om + 1))) 68 46 (nI (br + 1))) 68 46 = nI (br + 1) := rfl
      rw [if_neg (by decide), e46', show nI br + 1 = nI (br + 1) from nN_add br 1, e46'', if_pos ib, if_pos ib, if_pos ib, iN_nI (by omega), bnd_some, show (0 : Int32) &&& 1 = 0 from rfl, b2, bnd_some]
    have q94 : gI hM1 94 om = 1 := by
      rw [b5.i 94 om rfl]
      show gI (sI hM 94 om 1) 94 om = 1
      rw [gI_sI, if_pos ⟨rfl, rfl⟩]
    obtain ⟨v, hS2, c1, c2, c3⟩ := S (om + 1) (br + 1) hS1 hM1 t1 f (by omega) (by omega) (by omega) b3 (by rw [b5.i 68 45 rfl]; rfl) (by rw [b5.i 68 46 rfl]; rfl) (.inr q94) (by
        rw [b5.i 92 (br + 1) rfl]
        show gI (sI (sJ (sI (sI (sI hM 94 om 1) 68 45 (nI (om + 1))) 68 46 (nI (br + 1))) 90 (br + 1) 0) 92 (br + 1) 0) 92 (br + 1) = 0
        rw [gI_sI, if_pos ⟨rfl, rfl⟩]) (by rw [b5.i 93 (br + 1) rfl, gI_sI, if_pos ⟨rfl, rfl⟩]) (by
        rw [b5.j 90 (br + 1) rfl]
        show gJ (sJ (sI (sI (sI hM 94 om 1) 68 45 (nI (om + 1))) 68 46 (nI (br + 1))) 90 (br + 1) 0) 90 (br + 1) = 0
        rw [gJ_sJ, if_pos ⟨rfl, rfl⟩]) (by omega)
    have cls : F_Reader_readAtom_52 N (f_Reader_readAtom N d, f_Reader_readSum N d) (nI om) 0 hS = ((f_Reader_isSign N 41 hS2).bind (fun x8 =>
        if x8.1 = 0 then
        ((f_Reader_fail N 2 (gI x8.2 3 4) x8.2).bind (fun x9 =>
        some ((0 : Int64), x9.2)))
        else
        ((f_Reader_advance N x8.2).bind (fun x10 =>
        some (v, x10))))) := by
      unfold F_Reader_readAtom_52
      rw [show (6 : Int32) = nI 6 from rfl, if_pos (by rw [nN_lt (by omega) (by omega)]; omega), b1, bnd_some, if_pos rfl, show nI om + 1 = nI (om + 1) from nN_add om 1]
      dsimp only
      rw [c1, bnd_some]
    rw [cls, ref1]
    have fr1 : Fr wRd hM hM1 := (f1.mono (fun _ _ => w5_R)).trans (b5.mono (fun _ _ => wN_R))
    rcases c3 with ⟨hM2, t2, f2, d1, d2, d3, d4, d5, d6, d7, d8, d9⟩ | ⟨r, hM2, d1, d2, d3⟩
    · have t2n := d3.2.2.1.2.1
      obtain ⟨x2, y2, g2, k2, m2, -⟩ := id d3
      have nz : ¬ gI hM2 68 46 = 0 := by rw [d8, show (0 : Int32) = nI 0 from rfl, nN_inj (by omega) (by omega)]; omega
      have fr2 : Fr (wQ om br) hM hM2 := (f1q.trans (b5.mono (fun _ _ w => wN_Q w))).trans (d6.mono (fun _ _ w => wQs_in w))
      by_cases sc : isg t2 41
      · -- the bracket is closed
        have p2 : t2.1 ≠ 1 := by rw [sc.1]; decide
        have lt2 := g2.2.2.2.1 p2 (by rw [sc.1]; decide)
        have f3 : Fr wS5 hM2 (sI (sI hM2 68 46 (nI br)) 68 45 (nI om)) := (Fr.rfl.sI 68 46 _ rfl).sI 68 45 _ rfl
        obtain ⟨hS3, hM3, t3, h1, h2, h3, h4, h5, h6, h7⟩ := advB (N := N) hN (LV_s5 d3 f3) p2
        have t3n := h3.2.2.1.2.1
        obtain ⟨f2, rfl⟩ : ∃ z, f2 = z + 1 := ⟨f2 - 1, by omega⟩
        refine ⟨v, hS3, ?_, b4.trans (c2.trans h4), .inl ⟨hM3, t3, f2 + 1, ?_, h3, by omega, ?_, by rw [h5.i 68 45 rfl]; rfl, by rw [h5.i 68 46 rfl]; rfl, by omega⟩⟩
        · rw [show (41 : Int32) = nI 41 from rfl, sgS_y x2 g2 k2 (by omega) sc, bnd_some]
          dsimp only
          rw [if_neg (by decide), h1, bnd_some]
        · rw [d1]
          unfold TL
          rw [if_neg nz, show (41 : Int32) = nI 41 from rfl, sgM_y y2 g2 m2 (by omega) sc, bnd_some]
          dsimp only
          have e45' : gI (sI hM2 68 46 (nI br)) 68 45 = nI (om + 1) := d7
          rw [if_neg (by decide), d8, if_pos ib, iN_nI (by omega), d2, show nI (br + 1) - 1 = nI br from nN_sub (show 1 ≤ br + 1 by omega), e45', show nI (om + 1) - 1 = nI om from nN_sub (show 1 ≤ om + 1 by omega), h2, bnd_some]
          show F_M_sum_148 N (L_M_sum N f2) v 1 hM3 = F_M_sum_152 N (L_M_sum N f2) v 1 hM3
          unfold F_M_sum_148
          rw [if_neg (by decide)]
        · exact fr2.trans (((Fr.rfl.sI 68 46 _ (by simp [wQ])).sI 68 45 _ (by simp [wQ])).trans (h5.mono (fun _ _ w => wN_Q w)))
      · -- it isn't
        obtain ⟨hS3, hM3, a1, a2, a3, a4, a5⟩ := failB (N := N) d3 (a := 2) (by omega) (by omega)
        have a1' : f_Reader_fail N 2 (gI hS2 3 4) hS2 = _ := a1
        have a2' : f_M_fails N 2 hM2 = _ := a2
        refine ⟨0, hS3, ?_, b4.trans (c2.trans a4), .inr ⟨0, hM3, ?_, .inr ⟨rfl, a3⟩, (fr2.mono (fun _ _ => wQ_R)).trans (a5.mono (fun _ _ => wF_R))⟩⟩
        · rw [show (41 : Int32) = nI 41 from rfl, sgS_n x2 g2 k2 (by omega) sc, bnd_some]
          dsimp only
          rw [if_pos rfl, a1', bnd_some]
        · rw [d1]
          unfold TL
          rw [if_neg nz, show (41 : Int32) = nI 41 from rfl, sgM_n y2 g2 m2 (by omega) sc, bnd_some]
          dsimp only
          rw [if_pos rfl, a2', bnd_some]
          rfl
    · obtain ⟨w, hS3, u1, u2, u3⟩ := PD_up (N := N) hN d2 v
      exact ⟨w, hS3, u1, b4.trans (c2.trans u2), .inr ⟨r, hM2, d1, u3, fr1.trans d3⟩⟩
  rw [sgS_n x g k (by omega) so, sgM_n y g m (by omega) so, bnd_some, bnd_some]
  dsimp only
  rw [if_pos rfl, if_pos rfl]
  by_cases q : t.1 = 3
  · -- a number
    have p : t.1 ≠ 1 := by rw [q]; decide
    have lt := g.2.2.2.1 p (by rw [q]; decide)
    obtain ⟨hS1, hM1, t1, b1, b2, b3, b4, b5, b6, b7⟩ := advB (N := N) hN l p
    rw [if_pos (show gI hS 3 3 = 2 by rw [k3]; exact q), if_pos (show gI hM 68 10 = 3 by rw [m3]; exact q), b1, b2, bnd_some, bnd_some, k.2.2.2 q, m.2.2.2.1 q]
    refine ⟨_, hS1, rfl, b4, .inl ⟨hM1, t1, f + 1, ?_, b3, by omega, b5.mono (fun _ _ w => wN_Q w), by rw [b5.i 68 45 rfl]; exact e45, by rw [b5.i 68 46 rfl]; exact e46, by omega⟩⟩
    show F_M_sum_148 N (L_M_sum N f) _ 1 hM1 = F_M_sum_152 N (L_M_sum N f) _ 1 hM1
    unfold F_M_sum_148
    rw [if_neg (by decide)]
  · -- no atom
    obtain ⟨hS', hM', a1, a2, a3, a4, a5⟩ := failB (N := N) l (a := 2) (by omega) (by omega)
    have a1' : f_Reader_fail N 2 (gI hS 3 4) hS = _ := a1
    have a2' : f_M_fails N 2 hM = _ := a2
    rw [if_neg (show ¬ gI hS 3 3 = 2 by rw [k3]; exact q), if_neg (show ¬ gI hM 68 10 = 3 by rw [m3]; exact q), a1', a2', bnd_some, bnd_some]
    exact ⟨0, hS', rfl, a4, .inr ⟨0, hM', rfl, .inr ⟨rfl, a3⟩, a5.mono (fun _ _ => wF_R)⟩⟩
theorem allOK {N n : Nat} (hN : 2000 < N) {B : Nat → Nat} : ∀ d, AtomOK N n B d
  | 0 => fun om br hS hM t f h1 h2 => by omega
  | d + 1 => atomOK hN (allOK hN d) (sumOK hN (itemOK hN (allOK hN d)))
theorem sumB {N n : Nat} (hN : 3000 < N) {B : Nat → Nat} {hS hM : MH} {t : Nat × Nat × Nat × Nat} (l : LV n B hS hM t) : ∃ v hS' hM', f_Reader_readSum N 8 0 hS = some (v, hS') ∧ Fr wTk hS hS' ∧ Fr wRd hM hM' ∧ ((f_M_sum N hM = some (1, hM') ∧ gJ hM' 68 47 = v ∧ gI hS' 3 7 = 0 ∧ ∃ t', LV n B hS' hM' t' ∧ t'.1 ≠ 1 ∧ t.2.1 < t'.2.1) ∨ (∃ r, f_M_sum N hM = some (r, hM') ∧ PD n B hS' hM' r)) := by
  have n6 := l.1.1
  have f1 : Fr wS5 hM (sI (sI (sJ (sI (sI hM 68 45 0) 68 46 0) 90 0 0) 92 0 0) 93 0 0) := ((((Fr.rfl.sI 68 45 _ rfl).sI 68 46 _ rfl).sJ 90 0 _ rfl).sI 92 0 _ rfl).sI 93 0 _ rfl
  have ref : f_M_sum N hM = (L_M_sum N (N + 1)).1 (sI (sI (sJ (sI (sI hM 68 45 0) 68 46 0) 90 0 0) 92 0 0) 93 0 0) := by
    unfold f_M_sum F_M_sum_0 f_M_begin
    dsimp only
    have ib : inB (0 : Int32) 8 = true := by decide
    rw [if_pos ib, if_pos ib, if_pos ib, bnd_some, show (0 : Int32) &&& 1 = 0 from rfl]
    rfl
  obtain ⟨v, hS', c1, c2, c3⟩ := sumOK (show 2000 < N by omega) (itemOK (show 2000 < N by omega) (allOK (show 2000 < N by omega) 8)) 0 0 hS _ t (N + 1) (by omega) (by omega) (by omega) (LV_s5 l f1) rfl rfl (.inl rfl) rfl rfl rfl (by omega)
  have c1' : f_Reader_readSum N 8 0 hS = some (v, hS') := c1
  rw [ref]
  rcases c3 with ⟨hM2, t2, f2, d1, d2, d3, d4, d5, d6, d7, d8, d9⟩ | ⟨r, hM2, d1, d2, d3⟩
  · have f2' : Fr wS5 hM2 (sJ hM2 68 47 (gJ hM2 90 0)) := Fr.rfl.sJ 68 47 _ rfl
    refine ⟨v, hS', sJ hM2 68 47 (gJ hM2 90 0), c1', c2, ((f1.mono (fun _ _ => w5_R)).trans (d6.mono (fun _ _ => wQs_R))).trans (f2'.mono (fun _ _ => w5_R)), .inl ⟨?_, d2, (d3.2.2.2.2.2.2.2.1 d4).1, t2, LV_s5 d3 f2', d4, d5⟩⟩
    rw [d1]
    unfold TL
    have ib : inB (0 : Int32) 8 = true := by decide
    rw [if_pos (show gI hM2 68 46 = 0 from d8), if_pos ib]
    rfl
  · exact ⟨v, hS', hM2, c1', c2, (f1.mono (fun _ _ => w5_R)).trans d3, .inr ⟨r, d1, d2⟩⟩
