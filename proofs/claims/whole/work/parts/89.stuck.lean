/-! LAND: stuck -/
theorem sstk_d : ∀ s : Fin 64, ∀ m : Fin 6, nI s ||| ((1 : Int32) <<< (nI m &&& 31)) = nI (s.val ||| 2 ^ m.val) := by decide +kernel
theorem stuckB {N n : Nat} (hN : 3000 < N) {B : Nat → Nat} {hS hM : MH} {t : Nat × Nat × Nat × Nat} {D nc nm : Nat} (l : LV n B hS hM t) (ht : t.1 = 2) (pr : PR n B hS hM D nc nm) : PO n B D hS hM (f_Reader_readStuck N (nI t.2.1) hS) (f_M_stuck N hM) (fun a b => ∃ t' nc' nm', LV n B a b t' ∧ isg t' 59 ∧ t.2.1 < t'.2.1 ∧ PR n B a b D nc' nm') := by
  have n6 := l.1.1
  have ne : ¬ (1 : Int32) = 0 := by decide
  have hD := pr.1.1
  have nc6 := pr.1.2.2.1.1
  have lt0 := l.2.2.1.2.2.2.1 (by rw [ht]; decide) (by rw [ht]; decide)
  obtain ⟨hS1, hM1, t1, b1, b2, b3, b4, b5, b6, b7⟩ := advB (N := N) (by omega) l (by rw [ht]; decide)
  have pr1 := PR_fr pr b4 (b5.mono (fun _ _ => wN_R))
  have fS1 := b4.mono (fun _ _ => wTk_D (D := D))
  have fM1 := b5.mono (fun _ _ => wN_D)
  unfold f_Reader_readStuck f_M_stuck
  dsimp only
  rw [b1, b2, bnd_some, bnd_some, l.2.2.2.2.1.2.1]
  rcases cellB (N := N) hN b3 pr1 with ⟨cl, hS2, hS3, hM3, t3, a1, a2, a3, a4, a5, a6, a7, a8, a9⟩ | ⟨hS2, hM2, a1, a2, a3, a4, a5⟩
  case inr =>
    rw [a1, a2, bnd_some, bnd_some]
    dsimp only
    rw [if_neg (show ¬ (0 : Int32) ≤ -1 by decide), if_pos rfl]
    exact ⟨hS2, hM2, fS1.trans (a4.mono (fun _ _ => wTk_D (D := D))), fM1.trans (a5.mono (fun _ _ => wRd_D)), .inr ⟨rfl, rfl, a3⟩⟩
  have pr3 := PR_fr pr1 a8 a9
  have fS3 := fS1.trans (a8.mono (fun _ _ => wTk_D (D := D)))
  have fM3 := fM1.trans (a9.mono (fun _ _ => wRd_D))
  rw [a2, a4, bnd_some, bnd_some]
  dsimp only
  rw [if_pos (show (0 : Int32) ≤ nI cl by rw [show (0 : Int32) = nI 0 from rfl, nN_le (by omega) (by omega)]; omega), if_neg ne, a3, bnd_some, a5]
  -- from
  obtain ⟨hS4, hM4, w1, w2, w3⟩ := wordB (N := N) (by omega) a6 (j := 7) (by omega)
  have fS4 := fS3.trans (w1.mono (fun _ _ => wTk_D (D := D)))
  have fM4 := fM3.trans (w2.mono (fun _ _ => wF_D))
  rcases w3 with ⟨v1, v2, l4, v4, v5⟩ | ⟨v1, v2, v3⟩
  case inr =>
    have v1' : f_Reader_passWord N 7 hS3 = _ := v1
    have v2' : f_M_wantKey N 7 hM3 = _ := v2
    rw [v1', v2', bnd_some, bnd_some]
    exact ⟨hS4, hM4, fS4, fM4, .inr ⟨rfl, rfl, v3⟩⟩
  have v1' : f_Reader_passWord N 7 hS3 = _ := v1
  have v2' : f_M_wantKey N 7 hM3 = _ := v2
  have pr4 := PR_fr pr3 w1 (w2.mono (fun _ _ => wF_R))
  generalize tok B n t3.2.2.1 = t4 at l4 v4
  rw [v1', v2', bnd_some, bnd_some]
  dsimp only
  rw [if_neg ne, if_neg ne]
  rcases numB (N := N) (by omega) l4 (a := 0) (b := 100) (by omega) (by omega) with ⟨hS5, hM5, q1, q2, q3, q4, q5, q6, q7, q8, q9, q10, q11, q12, q13⟩ | ⟨hS5, hM5, -, q1, q2, q3, q4, q5⟩
  case inr =>
    have q1' : f_Reader_seesNumber N 0 100 hS4 = _ := q1
    have q2' : f_M_number N 0 100 hM4 = _ := q2
    rw [q1', q2', bnd_some, bnd_some]
    exact ⟨hS5, hM5, fS4.trans (q4.mono (fun _ _ => wTk_D (D := D))), fM4.trans (q5.mono (fun _ _ => wF_D)), .inr ⟨rfl, rfl, q3⟩⟩
  have q5' : f_Reader_seesNumber N 0 100 hS4 = _ := q5
  have q7' : f_M_number N 0 100 hM4 = _ := q7
  have fS5 := fS4.trans (q12.mono (fun _ _ => wTk_D (D := D)))
  have fM5 := fM4.trans (q13.mono (fun _ _ h => w39_R (wRd_D h)))
  have pr5 := PR_fr pr4 q12 (q13.mono (fun _ _ => w39_R))
  generalize tok B n t4.2.2.1 = t5 at q9 q10
  rw [q5', q7', bnd_some, bnd_some]
  dsimp only
  rw [if_neg ne, if_neg ne, q4, q6, bnd_some, q8]
  -- to
  obtain ⟨hS6, hM6, w1', w2', w3'⟩ := wordB (N := N) (by omega) q9 (j := 8) (by omega)
  have fS6 := fS5.trans (w1'.mono (fun _ _ => wTk_D (D := D)))
  have fM6 := fM5.trans (w2'.mono (fun _ _ => wF_D))
  rcases w3' with ⟨u1, u2, l6, u4, u5⟩ | ⟨u1, u2, u3⟩
  case inr =>
    have u1' : f_Reader_passWord N 8 hS5 = _ := u1
    have u2' : f_M_wantKey N 8 hM5 = _ := u2
    rw [u1', u2', bnd_some, bnd_some]
    exact ⟨hS6, hM6, fS6, fM6, .inr ⟨rfl, rfl, u3⟩⟩
  have u1' : f_Reader_passWord N 8 hS5 = _ := u1
  have u2' : f_M_wantKey N 8 hM5 = _ := u2
  have pr6 := PR_fr pr5 w1' (w2'.mono (fun _ _ => wF_R))
  generalize tok B n t5.2.2.1 = t6 at l6 u4
  rw [u1', u2', bnd_some, bnd_some]
  dsimp only
  rw [if_neg ne, if_neg ne]
  rcases numB (N := N) (by omega) l6 (a := t4.2.2.2) (b := 100) (by omega) (by omega) with ⟨hS7, hM7, s1, s2, s3, s4, s5, s6, s7, s8, s9, s10, s11, s12, s13⟩ | ⟨hS7, hM7, -, s1, s2, s3, s4, s5⟩
  case inr =>
    have s1' : f_Reader_seesNumber N (nI t4.2.2.2) 100 hS6 = _ := s1
    have s2' : f_M_number N (nI t4.2.2.2) 100 hM6 = _ := s2
    rw [s1', s2', bnd_some, bnd_some]
    exact ⟨hS7, hM7, fS6.trans (s4.mono (fun _ _ => wTk_D (D := D))), fM6.trans (s5.mono (fun _ _ => wF_D)), .inr ⟨rfl, rfl, s3⟩⟩
  have s5' : f_Reader_seesNumber N (nI t4.2.2.2) 100 hS6 = _ := s5
  have s7' : f_M_number N (nI t4.2.2.2) 100 hM6 = _ := s7
  have fS7 := fS6.trans (s12.mono (fun _ _ => wTk_D (D := D)))
  have fM7 := fM6.trans (s13.mono (fun _ _ h => w39_R (wRd_D h)))
  have pr7 := PR_fr pr6 s12 (s13.mono (fun _ _ => w39_R))
  generalize tok B n t6.2.2.1 = t7 at s9 s10
  rw [s5', s7', bnd_some, bnd_some]
  dsimp only
  rw [if_neg ne, if_neg ne, s4, s6, bnd_some, s8]
  obtain ⟨hS8, hM8, o1, o2, o3⟩ := endB (N := N) s9
  rcases o3 with ⟨i1, i2, i3, i4, i5⟩ | ⟨i1, i2, i3⟩
  case inr =>
    rw [i1, i2, bnd_some, bnd_some]
    exact ⟨hS8, hM8, fS7.trans (o1.mono (fun _ _ => wTk_D (D := D))), fM7.trans (o2.mono (fun _ _ => wF_D)), .inr ⟨rfl, rfl, i3⟩⟩
  subst i3 i4
  obtain ⟨dc, du, dn, ds, nr⟩ := id pr7
  have d39 := dc.2.1
  obtain ⟨ds1, ds2, K, ds3, ds4, ds5, ds6⟩ := ds
  have ib : inB (nI cl) 6 = true := by rw [inB_nI (by omega)]; omega
  have sd : ((nI K >>> (nI cl &&& 31)) &&& 1 = 0) ↔ K.testBit cl = false := sset_d ⟨K, ds3⟩ ⟨cl, by omega⟩
  have so : nI K ||| ((1 : Int32) <<< (nI cl &&& 31)) = nI (K ||| 2 ^ cl) := sstk_d ⟨K, ds3⟩ ⟨cl, by omega⟩
  rw [i1, i2, bnd_some, bnd_some]
  dsimp only
  rw [if_neg ne, if_neg ne, ds4, if_pos ib, iN_nI (by omega), ds5 cl a1, so]
  by_cases w : K.testBit cl = true
  · obtain ⟨hS9, hM9, f1, f2, f3, f4, f5⟩ := failAtB (N := N) s9 (by rw [i5.1]; decide) (a := 6) (by omega) (by omega) (nI t.2.1)
    have f1' : f_Reader_fail N 6 (nI t.2.1) hS8 = _ := f1
    have f2' : f_M_failsAt N 6 (nI t.2.1) hM8 = _ := f2
    rw [if_neg (show ¬ (nI K >>> (nI cl &&& 31)) &&& 1 = 0 from fun q => by rw [sd.mp q] at w; cases w), if_pos w, if_neg ne, f1', f2', bnd_some, bnd_some, if_pos ib]
    exact ⟨hS9, hM9, fS7.trans (f4.mono (fun _ _ => wTk_D (D := D))), fM7.trans (f5.mono (fun _ _ => wF_D)), .inr ⟨rfl, rfl, f3⟩⟩
  have wf : K.testBit cl = false := by simpa using w
  have r1 : gR (sI hS8 3 12 (nI (K ||| 2 ^ cl))) 3 9 = D := d39
  have r2 : gR (sI (sI hS8 3 12 (nI (K ||| 2 ^ cl))) (D + 4) cl (nI t4.2.2.2)) 3 9 = D := d39
  rw [if_pos (sd.mpr wf), if_neg w, if_pos rfl, if_pos ib, r1, if_pos ib, r2, if_pos ib, if_pos ib, if_pos ib, show (1 : Int32) &&& 1 = 1 from rfl]
  have fX : Fr (fun c k => (c == 3 && (11 ≤ k && k ≤ 12)) || (11 ≤ c && c ≤ 15) || (D ≤ c && c ≤ D + 5)) hS8 (sI (sI (sI hS8 3 12 (nI (K ||| 2 ^ cl))) (D + 4) cl (nI t4.2.2.2)) (D + 5) cl (nI t6.2.2.2)) := ((Fr.rfl.sI 3 12 _ rfl).sI (D + 4) cl _ (by simp)).sI (D + 5) cl _ (by simp)
  have fY : Fr (fun c k => (c == 68 && (28 ≤ k && k ≤ 30)) || (74 ≤ c && c ≤ 84)) hM8 (sI (sI (sI hM8 83 cl 1) 79 cl (nI t4.2.2.2)) 80 cl (nI t6.2.2.2)) := ((Fr.rfl.sI 83 _ _ rfl).sI 79 _ _ rfl).sI 80 _ _ rfl
  have oth : ∀ c k, c ≠ D + 4 → c ≠ D + 5 → c ≠ 3 → gI (sI (sI (sI hS8 3 12 (nI (K ||| 2 ^ cl))) (D + 4) cl (nI t4.2.2.2)) (D + 5) cl (nI t6.2.2.2)) c k = gI hS8 c k := fun c k h1 h2 h3 => by rw [gI_sI, if_neg (by omega), gI_sI, if_neg (by omega), gI_sI, if_neg (by omega)]
  have e4 : ∀ k, gI (sI (sI (sI hS8 3 12 (nI (K ||| 2 ^ cl))) (D + 4) cl (nI t4.2.2.2)) (D + 5) cl (nI t6.2.2.2)) (D + 4) k = if k = cl then nI t4.2.2.2 else gI hS8 (D + 4) k := fun k => by
    rw [gI_sI, if_neg (by omega), gI_sI]
    by_cases z : k = cl
    · rw [if_pos ⟨rfl, z⟩, if_pos z]
    · rw [if_neg (by omega), if_neg z, gI_sI, if_neg (by omega)]
  have e5 : ∀ k, gI (sI (sI (sI hS8 3 12 (nI (K ||| 2 ^ cl))) (D + 4) cl (nI t4.2.2.2)) (D + 5) cl (nI t6.2.2.2)) (D + 5) k = if k = cl then nI t6.2.2.2 else gI hS8 (D + 5) k := fun k => by
    rw [gI_sI]
    by_cases z : k = cl
    · rw [if_pos ⟨rfl, z⟩, if_pos z]
    · rw [if_neg (by omega), if_neg z, gI_sI, if_neg (by omega), gI_sI, if_neg (by omega)]
  have m79 : ∀ k, gI (sI (sI (sI hM8 83 cl 1) 79 cl (nI t4.2.2.2)) 80 cl (nI t6.2.2.2)) 79 k = if k = cl then nI t4.2.2.2 else gI hM8 79 k := fun k => by
    show gI (sI (sI hM8 83 cl 1) 79 cl (nI t4.2.2.2)) 79 k = _
    rw [gI_sI]
    by_cases z : k = cl
    · rw [if_pos ⟨rfl, z⟩, if_pos z]
    · rw [if_neg (by omega), if_neg z]; rfl
  have m80 : ∀ k, gI (sI (sI (sI hM8 83 cl 1) 79 cl (nI t4.2.2.2)) 80 cl (nI t6.2.2.2)) 80 k = if k = cl then nI t6.2.2.2 else gI hM8 80 k := fun k => by
    rw [gI_sI]
    by_cases z : k = cl
    · rw [if_pos ⟨rfl, z⟩, if_pos z]
    · rw [if_neg (by omega), if_neg z]; rfl
  have m83 : ∀ k, gI (sI (sI (sI hM8 83 cl 1) 79 cl (nI t4.2.2.2)) 80 cl (nI t6.2.2.2)) 83 k = if k = cl then 1 else gI hM8 83 k := fun k => by
    show gI (sI hM8 83 cl 1) 83 k = _
    rw [gI_sI]
    by_cases z : k = cl
    · rw [if_pos ⟨rfl, z⟩, if_pos z]
    · rw [if_neg (by omega), if_neg z]
  refine ⟨_, _, fS7.trans (fX.mono (fun c k h => ?_)), fM7.trans (fY.mono (fun c k h => ?_)), .inl ⟨rfl, rfl, t7, nc, nm, LV_D hD s9 fX fY, i5, by omega, ?_, ?_, ?_, ?_, ?_⟩⟩
  · unfold wDS at h; simp at h ⊢; omega
  · unfold wDM at h; simp at h ⊢; omega
  · exact DC_eq dc rfl (oth _ _ (by omega) (by omega) (by omega)) (oth _ _ (by omega) (by omega) (by omega)) rfl rfl
  · exact DU_eq du (fun k => oth _ _ (by omega) (by omega) (by omega)) rfl (fun k => rfl) (fun k => rfl)
  · exact DN_eq dn (fun k => oth _ _ (by omega) (by omega) (by omega)) (fun k => rfl)
  · refine ⟨fun c hc => ?_, fun c h1 h2 => ?_, K ||| 2 ^ cl, Nat.or_lt_two_pow (n := 6) ds3 (Nat.pow_lt_pow_right (by omega) (by omega)), ?_, fun c hc => ?_, fun c hc => ?_⟩
    · rw [oth _ _ (by omega) (by omega) (by omega), e4, e5, m79, m80]
      have m78 : gI (sI (sI (sI hM8 83 cl 1) 79 cl (nI t4.2.2.2)) 80 cl (nI t6.2.2.2)) 78 c = gI hM8 78 c := rfl
      rw [m78]
      obtain ⟨o1, o2, o3, x1, x2, x3, x4, x5, x6, x7, x8, x9⟩ := ds1 c hc
      by_cases z : c = cl
      · rw [if_pos z, if_pos z, if_pos z, if_pos z]
        exact ⟨o1, rfl, rfl, x1, t4.2.2.2, t6.2.2.2, x4, q3, s3, x7, rfl, rfl⟩
      · rw [if_neg z, if_neg z, if_neg z, if_neg z]
        exact ⟨o1, o2, o3, x1, x2, x3, x4, x5, x6, x7, x8, x9⟩
    · rw [e4, e5, if_neg (by omega), if_neg (by omega)]
      exact ds2 c h1 h2
    · rw [gI_sI, if_neg (by omega), gI_sI, if_neg (by omega), gI_sI, if_pos ⟨rfl, rfl⟩]
    · rw [m83, tb_or2]
      by_cases z : c = cl
      · rw [if_pos z, if_pos (by rw [z]; simp)]
      · rw [if_neg z, ds5 c hc]
        have : decide (cl = c) = false := by simp; omega
        rw [this, Bool.or_false]
    · rw [tb_or2, ds6 c hc]
      simp; omega
  · obtain ⟨S, ns, ST, SP, r⟩ := nr
    exact ⟨S, ns, ST, SP, NR_eq r (oth _ _ (by omega) (by omega) (by omega)) (fun k => oth _ _ (by omega) (by omega) (by omega)) (fun k => oth _ _ (by omega) (by omega) (by omega)) (fun k => oth _ _ (by omega) (by omega) (by omega)) (fun k => oth _ _ (by omega) (by omega) (by omega)) rfl rfl (fun k => rfl) (fun k => rfl) (fun k => rfl) (fun k => rfl)⟩
