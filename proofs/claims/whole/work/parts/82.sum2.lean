/-! LAND: sums, the rest -/
theorem lSum {N n : Nat} (hN : 2000 < N) {B : Nat → Nat} {d : Nat} (A : ItemOK N n B d) {om br : Nat} (hd : d + om = 8) (ho : om ≤ 6) (hb : br ≤ om) : ∀ (e i c f : Nat) (acc a1 as0 as1 : Int64) (hS hM : MH) (t : Nat × Nat × Nat × Nat), e + t.2.1 = n → i ≤ t.2.1 → e < c → as1 + as0 = acc → LV n B hS hM t → t.1 ≠ 1 → gI hM 68 45 = nI om → gI hM 68 46 = nI br → (om = 0 ∨ gI hM 94 (om - 1) = 1) → 4 * (n - t.2.1) + 20 ≤ f →
    ∃ v hS', L_Reader_readSum N (f_Reader_readItem N d) c (nI om) acc (nI i) hS = some (v, hS') ∧ Fr wTk hS hS' ∧ ((∃ hM' t' f', F_M_sum_294 N (L_M_sum N f) a1 1 as0 as1 (nI br) hM = TL N (L_M_sum N f') 1 hM' ∧ gJ hM' 90 br = v ∧ LV n B hS' hM' t' ∧ t'.1 ≠ 1 ∧ t.2.1 ≤ t'.2.1 ∧ Fr (wQs om br) hM hM' ∧ gI hM' 68 45 = nI om ∧ gI hM' 68 46 = nI br ∧ f ≤ f' + 4 * (t'.2.1 - t.2.1)) ∨ (∃ r hM', F_M_sum_294 N (L_M_sum N f) a1 1 as0 as1 (nI br) hM = some (r, hM') ∧ PD n B hS' hM' r ∧ Fr wRd hM hM')) := by
  intro e
  induction e using Nat.strongRecOn with
  | _ e ih =>
    intro i c f acc a1 as0 as1 hS hM t he hi hc has l p e45 e46 top hf
    obtain ⟨c, rfl⟩ : ∃ z, c = z + 1 := ⟨c - 1, by omega⟩
    obtain ⟨x, y, g, k, m, e1, e2, e3, e4⟩ := id l
    have n6 := x.1
    by_cases s : isg t 43 ∨ isg t 45
    case neg =>
      have s1 : ¬ isg t 43 := fun w => s (.inl w)
      have s2 : ¬ isg t 45 := fun w => s (.inr w)
      refine ⟨acc, hS, ?_, Fr.rfl, .inl ⟨_, t, f, e294 l (by omega) e46 s1 s2 _ _ _ _ _, ?_, LV_s5 l ((Fr.rfl.sJ 90 br _ rfl).sI 92 br _ rfl), p, Nat.le_refl _, ?_, e45, e46, by omega⟩⟩
      · show F_Reader_readSum_9 N _ _ (nI om) acc (nI i) hS = _
        unfold F_Reader_readSum_9
        by_cases w : (600 : Int32) ≤ nI i
        · rw [if_pos w]
        rw [if_neg w, if_pos (e3 p).1, show (43 : Int32) = nI 43 from rfl, sgS_n x g k (by omega) s1, bnd_some]
        dsimp only
        rw [if_pos rfl, show (45 : Int32) = nI 45 from rfl, sgS_n x g k (by omega) s2, bnd_some]
        dsimp only
        rw [if_pos rfl]
      · show gJ (sJ hM 90 br (as1 + as0)) 90 br = acc
        rw [gJ_sJ, if_pos ⟨rfl, rfl⟩, has]
      · exact (Fr.rfl.sJ 90 br _ (by simp [wQs])).sI 92 br _ (by simp [wQs])
    -- a + or - and an item more
    have s4 : t.1 = 4 := by rcases s with w | w; exact w.1; exact w.1
    have st := (g.2.2.2.2.2.2.1 s4).2
    have lt := g.2.2.2.1 p (by rw [s4]; decide)
    obtain ⟨ls, hls, e294'⟩ := e294s (N := N) l (show br < 8 by omega) e46 s (L_M_sum N f) a1 1 as0 as1
    have f1 : Fr wS5 hM (sI (sI (sJ hM 90 br (as1 + as0)) 92 br 0) 93 br ls) := ((Fr.rfl.sJ 90 br _ rfl).sI 92 br _ rfl).sI 93 br _ rfl
    have f1s : Fr (wQs om br) hM (sI (sI (sJ hM 90 br (as1 + as0)) 92 br 0) 93 br ls) := ((Fr.rfl.sJ 90 br _ (by simp [wQs])).sI 92 br _ (by simp [wQs])).sI 93 br _ (by simp [wQs])
    obtain ⟨hS1, hM1, t1, b1, b2, b3, b4, b5, b6, b7⟩ := advB (N := N) hN (LV_s5 l f1) p
    obtain ⟨f, rfl⟩ : ∃ z, f = z + 1 := ⟨f - 1, by omega⟩
    have t1n := b3.2.2.1.2.1
    have e45' : gI hM1 68 45 = nI om := by rw [b5.i 68 45 rfl]; exact e45
    have e46' : gI hM1 68 46 = nI br := by rw [b5.i 68 46 rfl]; exact e46
    have q92 : gI hM1 92 br = 0 := by
      rw [b5.i 92 br rfl]
      show gI (sI (sJ hM 90 br (as1 + as0)) 92 br 0) 92 br = 0
      rw [gI_sI, if_pos ⟨rfl, rfl⟩]
    have q93 : gI hM1 93 br = ls := by
      rw [b5.i 93 br rfl, gI_sI, if_pos ⟨rfl, rfl⟩]
    have q90 : gJ hM1 90 br = acc := by
      rw [b5.j 90 br rfl]
      show gJ (sJ hM 90 br (as1 + as0)) 90 br = acc
      rw [gJ_sJ, if_pos ⟨rfl, rfl⟩, has]
    have top1 : om = 0 ∨ gI hM1 94 (om - 1) = 1 := by
      rcases top with w | w
      · exact .inl w
      · right; rw [b5.i 94 (om - 1) rfl]; exact w
    have ref1 : F_M_sum_294 N (L_M_sum N (f + 1)) a1 1 as0 as1 (nI br) hM = (L_M_sum N f).1 hM1 := by
      rw [e294']
      show F_M_sum_148 N (L_M_sum N f) a1 0 _ = _
      unfold F_M_sum_148
      rw [if_pos rfl, b2, bnd_some]
    have fr1 : Fr wRd hM hM1 := (f1.mono (fun _ _ => w5_R)).trans (b5.mono (fun _ _ => wN_R))
    obtain ⟨v, hS2, c1, c2, c3⟩ := A om br hS1 hM1 t1 f hd ho hb b3 e45' e46' top1 q92 (by omega)
    have cls : L_Reader_readSum N (f_Reader_readItem N d) (c + 1) (nI om) acc (nI i) hS = L_Reader_readSum N (f_Reader_readItem N d) c (nI om) (acc + if ls = 0 then v else -v) (nI (i + 1)) hS2 := by
      show F_Reader_readSum_9 N _ _ (nI om) acc (nI i) hS = _
      unfold F_Reader_readSum_9 F_Reader_readSum_42
      rw [show (600 : Int32) = nI 600 from rfl, if_neg (by rw [nN_le (by omega) (by omega)]; omega), if_pos (e3 p).1, show (43 : Int32) = nI 43 from rfl, show (45 : Int32) = nI 45 from rfl, show nI i + 1 = nI (i + 1) from nN_add i 1]
      rcases hls with ⟨rfl, w⟩ | ⟨rfl, w⟩
      · have w2 : ¬ isg t 45 := fun u => by have := u.2; have := w.2; omega
        rw [sgS_y x g k (by omega) w, bnd_some]
        dsimp only
        rw [if_neg (by decide), sgS_n x g k (by omega) w2, bnd_some]
        dsimp only
        rw [b1, bnd_some, c1, bnd_some]
        dsimp only
        rw [if_pos rfl, if_pos rfl]
      · have w2 : ¬ isg t 43 := fun u => by have := u.2; have := w.2; omega
        rw [sgS_n x g k (by omega) w2, bnd_some]
        dsimp only
        rw [if_pos rfl, sgS_y x g k (by omega) w, bnd_some]
        dsimp only
        rw [if_neg (by decide), sgS_y x g k (by omega) w, bnd_some]
        dsimp only
        rw [b1, bnd_some, c1, bnd_some]
        dsimp only
        rw [if_neg (by decide), if_neg (by decide), Int64.sub_eq_add_neg]
    rw [cls]
    rcases c3 with ⟨hM2, t2, f2, a2, d1, d2, d3, d4, d5, d6, d7, d8⟩ | ⟨r, hM2, d1, d2, d3⟩
    · have t2n := d2.2.2.1.2.1
      rw [q93, q90] at d1
      have top2 : om = 0 ∨ gI hM2 94 (om - 1) = 1 := by
        rcases top1 with w | w
        · exact .inl w
        · by_cases o : om = 0
          · exact .inl o
          · right
            rw [d5.i 94 (om - 1) (by unfold wQi wQ wF; simp; omega)]
            exact w
      have ref2 : F_M_sum_294 N (L_M_sum N (f + 1)) a1 1 as0 as1 (nI br) hM = F_M_sum_294 N (L_M_sum N f2) a2 1 (if ls = 0 then v else -v) acc (nI br) hM2 := by
        rw [ref1, d1]
      obtain ⟨v', hS3, g1, g2, g3⟩ := ih (n - t2.2.1) (by omega) (i + 1) c f2 (acc + if ls = 0 then v else -v) a2 (if ls = 0 then v else -v) acc hS2 hM2 t2 (by omega) (by omega) (by omega) rfl d2 d3 d6 d7 top2 (by omega)
      refine ⟨v', hS3, g1, b4.trans (c2.trans g2), ?_⟩
      rw [ref2]
      have fr2 : Fr (wQs om br) hM hM2 := (f1s.trans (b5.mono (fun _ _ w => wN_Q (wQ_i (wQi_s w))))).trans (d5.mono (fun _ _ w => wQi_s w))
      rcases g3 with ⟨hM3, t3, f3, k1, k2, k3, k4, k5, k6, k7, k8, k9⟩ | ⟨r, hM3, k1, k2, k3⟩
      · exact .inl ⟨hM3, t3, f3, k1, k2, k3, k4, by omega, fr2.trans k6, k7, k8, by omega⟩
      · exact .inr ⟨r, hM3, k1, k2, fr1.trans ((d5.mono (fun _ _ => wQi_R)).trans k3)⟩
    · refine ⟨acc + if ls = 0 then v else -v, hS2, ?_, b4.trans c2, .inr ⟨r, hM2, by rw [ref1, d1], d2, fr1.trans d3⟩⟩
      obtain ⟨c, rfl⟩ : ∃ z, c = z + 1 := ⟨c - 1, by omega⟩
      show F_Reader_readSum_9 N _ _ (nI om) _ _ hS2 = _
      unfold F_Reader_readSum_9
      by_cases w : (600 : Int32) ≤ nI (i + 1)
      · rw [if_pos w]
      · rw [if_neg w, if_neg (PD_f d2)]
theorem sumOK {N n : Nat} (hN : 2000 < N) {B : Nat → Nat} {d : Nat} (A : ItemOK N n B d) : SumOK N n B d := by
  intro om br hS hM t f hd ho hb l e45 e46 top e92 e93 e90 hf
  obtain ⟨v, hS1, c1, c2, c3⟩ := A om br hS hM t f hd ho hb l e45 e46 top e92 hf
  have n6 := l.1.1
  have cls : f_Reader_readSum N d (nI om) hS = L_Reader_readSum N (f_Reader_readItem N d) (N + 1) (nI om) v (nI 0) hS1 := by
    show F_Reader_readSum_0 N (f_Reader_readItem N d) _ (nI om) hS = _
    unfold F_Reader_readSum_0
    rw [c1, bnd_some]
    rfl
  rcases c3 with ⟨hM2, t2, f2, a2, d1, d2, d3, d4, d5, d6, d7, d8⟩ | ⟨r, hM2, d1, d2, d3⟩
  · have t2n := d2.2.2.1.2.1
    rw [if_pos e93, e90] at d1
    have top2 : om = 0 ∨ gI hM2 94 (om - 1) = 1 := by
      rcases top with w | w
      · exact .inl w
      · by_cases o : om = 0
        · exact .inl o
        · right
          rw [d5.i 94 (om - 1) (by unfold wQi wQ wF; simp; omega)]
          exact w
    obtain ⟨v', hS3, g1, g2, g3⟩ := lSum hN A hd ho hb (n - t2.2.1) 0 (N + 1) f2 v a2 v 0 hS1 hM2 t2 (by omega) (by omega) (by omega) (Int64.zero_add v) d2 d3 d6 d7 top2 (by omega)
    refine ⟨v', hS3, by rw [cls]; exact g1, c2.trans g2, ?_⟩
    rcases g3 with ⟨hM3, t3, f3, k1, k2, k3, k4, k5, k6, k7, k8, k9⟩ | ⟨r, hM3, k1, k2, k3⟩
    · exact .inl ⟨hM3, t3, f3, by rw [d1]; exact k1, k2, k3, k4, by omega, (d5.mono (fun _ _ w => wQi_s w)).trans k6, k7, k8, by omega⟩
    · exact .inr ⟨r, hM3, by rw [d1]; exact k1, k2, (d5.mono (fun _ _ => wQi_R)).trans k3⟩
  · refine ⟨v, hS1, ?_, c2, .inr ⟨r, hM2, d1, d2, d3⟩⟩
    rw [cls]
    show F_Reader_readSum_9 N _ _ (nI om) _ _ hS1 = _
    unfold F_Reader_readSum_9
    rw [if_neg (by decide), if_neg (PD_f d2)]
/-- the class has failed, and passes a bracket all the same -/
theorem PD_up {N n : Nat} (hN : 2000 < N) {B : Nat → Nat} {hS hM : MH} {r : Int32} (h : PD n B hS hM r) (v : Int64) : ∃ w hS', ((f_Reader_isSign N 41 hS).bind (fun x8 =>
  if x8.1 = 0 then
  ((f_Reader_fail N 2 (gI x8.2 3 4) x8.2).bind (fun x9 =>
  some ((0 : Int64), x9.2)))
  else
  ((f_Reader_advance N x8.2).bind (fun x10 =>
  some (v, x10))))) = some (w, hS') ∧ Fr wTk hS hS' ∧ PD n B hS' hM r := by
  have nf := PD_f h
  have fl : f_Reader_fail N 2 (gI hS 3 4) hS = some (0, hS) := by rw [eFail, if_neg nf]
  rcases h with ⟨e, t, l, ht⟩ | ⟨e, x, ⟨t, g, k⟩, fe, pe⟩
  · obtain ⟨x, y, g, k, -⟩ := id l
    rw [show (41 : Int32) = nI 41 from rfl, sgS_n x g k (by omega) (isg1 ht), bnd_some]
    dsimp only
    rw [if_pos rfl, fl, bnd_some]
    exact ⟨0, hS, rfl, Fr.rfl, .inl ⟨e, t, l, ht⟩⟩
  · by_cases s : isg t 41
    · have s1 : t.1 ≠ 1 := by rw [s.1]; decide
      rw [show (41 : Int32) = nI 41 from rfl, sgS_y x g k (by omega) s, bnd_some]
      dsimp only
      obtain ⟨g3, g4⟩ := g.2.2.1 s1
      obtain ⟨hS', a1, a2, a3, a4⟩ := eAdv (N := N) hN x (k.2.2.1 s1) g4
      obtain ⟨v7, v8⟩ := a4.2 (fun q => nf q.2)
      rw [if_neg (by decide), a1, bnd_some]
      refine ⟨v, hS', rfl, a2, .inr ⟨e, CX_fr x a2 rfl (fun _ => rfl), ⟨_, (tok_good g4 (fun k hk => (x.2.2 k hk).1)).1, a3⟩, ?_, by rw [v8]; exact pe⟩⟩
      obtain ⟨f, f1, f2, f3, f4⟩ := fe
      exact ⟨f, f1, f2, by rw [v7]; exact f3, f4⟩
    · rw [show (41 : Int32) = nI 41 from rfl, sgS_n x g k (by omega) s, bnd_some]
      dsimp only
      rw [if_pos rfl, fl, bnd_some]
      exact ⟨0, hS, rfl, Fr.rfl, .inr ⟨e, x, ⟨t, g, k⟩, fe, pe⟩⟩
