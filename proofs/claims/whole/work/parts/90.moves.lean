/-! LAND: moves -/
theorem nJ_or (a b : Nat) : nJ a ||| nJ b = nJ (a ||| b) := by
  rw [← Int64.toBitVec_inj, Int64.toBitVec_or]
  show BitVec.ofNat 64 a ||| BitVec.ofNat 64 b = BitVec.ofNat 64 (a ||| b)
  apply BitVec.eq_of_getLsbD_eq
  intro i hi
  simp [BitVec.getLsbD_ofNat, hi]
theorem sh_d : ∀ p : Fin 48, (Int32.toInt64 (nI p) &&& 63) = nJ p ∧ (1 : Int64) <<< (nJ p) = nJ (2 ^ p.val) ∧ BitVec.smod (nJ p).toBitVec 64#64 = BitVec.ofNat 64 p := by decide +kernel
theorem nJ_bit {M p : Nat} (hM : M < 2 ^ 48) (hp : p < 48) : ((nJ M >>> (Int32.toInt64 (nI p) &&& 63)) &&& 1 = 0) ↔ M.testBit p = false := by
  obtain ⟨d1, -, d3⟩ := sh_d ⟨p, hp⟩
  have d1' : (Int32.toInt64 (nI p) &&& 63) = nJ p := d1
  have d3' : BitVec.smod (nJ p).toBitVec 64#64 = BitVec.ofNat 64 p := d3
  have le1 : (M >>> p) &&& 1 ≤ 1 := Nat.and_le_right
  have e : (nJ M >>> nJ p) &&& 1 = nJ ((M >>> p) &&& 1) := by
    rw [← Int64.toBitVec_inj, Int64.toBitVec_and, Int64.toBitVec_shiftRight]
    show (BitVec.sshiftRight' (BitVec.ofNat 64 M) (BitVec.smod (nJ p).toBitVec 64#64)) &&& 1#64 = BitVec.ofNat 64 ((M >>> p) &&& 1)
    rw [d3']
    have msb : (BitVec.ofNat 64 M).msb = false := by
      rw [BitVec.msb_eq_false_iff_two_mul_lt, BitVec.toNat_ofNat, Nat.mod_eq_of_lt (by omega)]
      omega
    rw [BitVec.sshiftRight_eq', BitVec.sshiftRight_eq_of_msb_false msb]
    apply BitVec.eq_of_toNat_eq
    rw [BitVec.toNat_and, BitVec.toNat_ushiftRight, BitVec.toNat_ofNat, BitVec.toNat_ofNat, BitVec.toNat_ofNat, BitVec.toNat_ofNat, Nat.mod_eq_of_lt (show M < 2 ^ 64 by omega), Nat.mod_eq_of_lt (show p < 2 ^ 64 by omega), Nat.mod_eq_of_lt (show 1 < 2 ^ 64 by omega), Nat.mod_eq_of_lt (show (M >>> p) &&& 1 < 2 ^ 64 by omega)]
  rw [d1', e, show (0 : Int64) = nJ 0 from rfl, nJ_inj (by omega) (by omega)]
  unfold Nat.testBit
  rw [Nat.and_comm]
  simp
theorem nJ_set {M p : Nat} (hp : p < 48) : nJ M ||| ((1 : Int64) <<< (Int32.toInt64 (nI p) &&& 63)) = nJ (M ||| 2 ^ p) := by
  obtain ⟨d1, d2, -⟩ := sh_d ⟨p, hp⟩
  have d1' : (Int32.toInt64 (nI p) &&& 63) = nJ p := d1
  have d2' : (1 : Int64) <<< (nJ p) = nJ (2 ^ p) := d2
  rw [d1', d2', nJ_or]
theorem nine {v : Int64} (h1 : ¬ v < -9) (h2 : v ≤ 9) : -9 ≤ v.toInt32.toInt ∧ v.toInt32.toInt ≤ 9 := by
  rw [Int64.lt_iff_toInt_lt, show (-9 : Int64).toInt = -9 from rfl] at h1
  rw [Int64.le_iff_toInt_le, show (9 : Int64).toInt = 9 from rfl] at h2
  rw [Int64.toInt_toInt32]
  have : Int.bmod v.toInt (2 ^ 32) = v.toInt := by
    rw [Int.bmod_eq_of_le] <;> omega
  rw [this]
  omega
theorem DU_add {hS hM hS' hM' : MH} {D nc c m : Nat} (h : DU hS hM D nc) (hc : c < nc) (n6 : nc ≤ 6) (hm : m < 8) {v : Int32} (hv : -9 ≤ v.toInt ∧ v.toInt ≤ 9) {M : Nat} (lM : M < 2 ^ 48) (eM0 : gJ hS 3 11 = nJ M) (eS : ∀ k, gI hS' (D + 1) k = if k = 8 * c + m then v else gI hS (D + 1) k) (eJ : gJ hS' 3 11 = nJ (M ||| 2 ^ (8 * c + m))) (e81 : ∀ k, gI hM' 81 k = if k = 8 * c + m then v else gI hM 81 k) (e84 : ∀ k, gI hM' 84 k = if k = 8 * c + m then 1 else gI hM 84 k) : DU hS' hM' D nc := by
  obtain ⟨h1, h2, M', h3, h4, h5⟩ := h
  have mm : M' = M := by
    rw [eM0, nJ_inj (by omega) (by omega)] at h4
    exact h4.symm
  subst mm
  refine ⟨fun k hk => ?_, fun a k q1 q2 q3 => ?_, M' ||| 2 ^ (8 * c + m), Nat.or_lt_two_pow (n := 48) h3 (Nat.pow_lt_pow_right (by omega) (by omega)), eJ, fun p hp => ?_⟩
  · rw [eS, e81]
    by_cases z : k = 8 * c + m
    · rw [if_pos z, if_pos z]; exact ⟨rfl, hv⟩
    · rw [if_neg z, if_neg z]; exact h1 k hk
  · rw [e81, if_neg (by omega)]; exact h2 a k q1 q2 q3
  · rw [e84, tb_or2]
    by_cases z : p = 8 * c + m
    · rw [if_pos z, if_pos (by rw [z]; simp)]
    · rw [if_neg z, h5 p hp]
      have : decide (8 * c + m = p) = false := by simp; omega
      rw [this, Bool.or_false]
theorem movesB {N n : Nat} (hN : 3000 < N) {B : Nat → Nat} {hS hM : MH} {t : Nat × Nat × Nat × Nat} {D nc nm : Nat} (l : LV n B hS hM t) (ht : t.1 = 2) (pr : PR n B hS hM D nc nm) : PO n B D hS hM (f_Reader_readMoves N (nI t.2.1) hS) (f_M_moving N hM) (fun a b => ∃ t' nc' nm', LV n B a b t' ∧ isg t' 59 ∧ t.2.1 < t'.2.1 ∧ PR n B a b D nc' nm') := by
  have n6 := l.1.1
  have ne : ¬ (1 : Int32) = 0 := by decide
  have hD := pr.1.1
  have nc6 := pr.1.2.2.1.1
  have nm8 := pr.1.2.2.1.2
  have lt0 := l.2.2.1.2.2.2.1 (by rw [ht]; decide) (by rw [ht]; decide)
  obtain ⟨hS1, hM1, t1, b1, b2, b3, b4, b5, b6, b7⟩ := advB (N := N) (by omega) l (by rw [ht]; decide)
  have pr1 := PR_fr pr b4 (b5.mono (fun _ _ => wN_R))
  have fS1 := b4.mono (fun _ _ => wTk_D (D := D))
  have fM1 := b5.mono (fun _ _ => wN_D)
  unfold f_Reader_readMoves f_M_moving
  dsimp only
  rw [b1, b2, bnd_some, bnd_some, l.2.2.2.2.1.2.1]
  rcases cellB (N := N) hN b3 pr1 with ⟨cl, hS2, hS3, hM3, t3, a1, a2, a3, a4, a5, a6, a7, a8, a9⟩ | ⟨hS2, hM2, a1, a2, a3, a4, a5⟩
  case inr =>
    rw [a1, a2, bnd_some, bnd_some]
    dsimp only
    rw [if_neg (show ¬ (0 : Int32) ≤ -1 by decide), if_pos rfl]
    exact ⟨hS2, hM2, fS1.trans (a4.mono (fun _ _ => wTk_D (D := D))), fM1.trans (a5.mono (fun _ _ => wRd_D)), .inr ⟨rfl, rfl, a3⟩⟩
  have pr3 := PR_fr pr1 a8 a9
  have fS3 := fS1.trans (a8.mono (fun _ _ => wTk_D (D := D)))
  have fM3 := fM1.trans (a9.mono (fun _ _ => wRd_D))
  rw [a2, a4, bnd_some, bnd_some]
  dsimp only
  rw [if_pos (show (0 : Int32) ≤ nI cl by rw [show (0 : Int32) = nI 0 from rfl, nN_le (by omega) (by omega)]; omega), if_neg ne, a3, bnd_some, a5]
  -- the mark's name
  obtain ⟨x, y, g, k, m, -⟩ := id a6
  obtain ⟨-, -, -, -, S, ns, ST, SP, r⟩ := id pr3
  have S14 : S ≤ 14 := by have := r.1; omega
  obtain ⟨in1, in0⟩ := eIsName (N := N) (by omega) x g k
  obtain ⟨im1, im0⟩ := eNameM (N := N) (by omega) y g m
  by_cases z : nmd B t3
  case neg =>
    obtain ⟨hS', hM', f1, f2, f3, f4, f5⟩ := failB (N := N) a6 (a := 2) (by omega) (by omega)
    have f1' : f_Reader_fail N 2 (gI hS3 3 4) hS3 = _ := f1
    have f2' : f_M_fails N 2 hM3 = _ := f2
    rw [in0 z, im0 z, bnd_some, bnd_some]
    dsimp only
    rw [if_pos rfl, if_pos (by decide), f1', f2', bnd_some, bnd_some]
    exact ⟨hS', hM', fS3.trans (f4.mono (fun _ _ => wTk_D (D := D))), fM3.trans (f5.mono (fun _ _ => wF_D)), .inr ⟨rfl, rfl, f3⟩⟩
  have p : t3.1 ≠ 1 := by rw [z.1]; decide
  have nm1 := nv_m1 (fun k hk => (x.2.2 k hk).1) g z
  rw [in1 z, im1 z, bnd_some, bnd_some]
  dsimp only
  rw [if_neg ne, if_neg nm1, k.2.1, k.2.2.1 p]
  have none3 : ∃ hS' hM', f_Reader_fail N 3 (nI t3.2.1) hS3 = some (0, hS') ∧ f_M_fails N 3 hM3 = some (0, hM') ∧ DD n B hS' hM' ∧ Fr wTk hS3 hS' ∧ Fr wF hM3 hM' := by
    obtain ⟨hS', hM', f1, f2, f3, f4, f5⟩ := failB (N := N) a6 (a := 3) (by omega) (by omega)
    rw [k.2.1] at f1
    exact ⟨hS', hM', f1, f2, f3, f4, f5⟩
  rcases nameB (N := N) (by omega) a6 r z with ⟨n1, n2, n3, n4⟩ | ⟨i, s, f, c, i1, s1, n1, n2, n3, n4, n5, n6', n7, n8, n9⟩ | ⟨i, q, i1, q1, n1, n2, n3, n4, n5⟩
  · obtain ⟨hS', hM', f1, f2, f3, f4, f5⟩ := none3
    rw [n1, n3, bnd_some, bnd_some]
    dsimp only
    rw [if_pos (by decide), if_pos rfl, k.2.1, f1, f2, bnd_some, bnd_some]
    exact ⟨hS', hM', fS3.trans (f4.mono (fun _ _ => wTk_D (D := D))), fM3.trans (f5.mono (fun _ _ => wF_D)), .inr ⟨rfl, rfl, f3⟩⟩
  · obtain ⟨hS', hM', f1, f2, f3, f4, f5⟩ := none3
    rw [n1, n3, bnd_some, bnd_some]
    dsimp only
    rw [if_neg (show ¬ nI i < 0 by rw [show (0 : Int32) = nI 0 from rfl, nN_lt (by omega) (by omega)]; omega), if_pos (show inB (nI i) 14 = true by rw [inB_nI (by omega)]; omega), iN_nI (by omega), n5, if_neg (show ¬ nI c ≤ 0 by rw [show (0 : Int32) = nI 0 from rfl, nN_le (by omega) (by omega)]; omega), if_pos rfl, k.2.1, f1, f2, bnd_some, bnd_some]
    exact ⟨hS', hM', fS3.trans (f4.mono (fun _ _ => wTk_D (D := D))), fM3.trans (f5.mono (fun _ _ => wF_D)), .inr ⟨rfl, rfl, f3⟩⟩
  have ibi : inB (nI i) 14 = true := by rw [inB_nI (by omega)]; omega
  obtain ⟨hS4, hM4, t4, e1, e2, e3, e4, e5, e6, e7⟩ := advB (N := N) (by omega) a6 p
  have lt3 := g.2.2.2.1 p (by rw [z.1]; decide)
  have pr4 := PR_fr pr3 e4 (e5.mono (fun _ _ => wN_R))
  have fS4 := fS3.trans (e4.mono (fun _ _ => wTk_D (D := D)))
  have fM4 := fM3.trans (e5.mono (fun _ _ => wN_D))
  rw [n1, n3, bnd_some, bnd_some]
  dsimp only
  rw [if_neg (show ¬ nI i < 0 by rw [show (0 : Int32) = nI 0 from rfl, nN_lt (by omega) (by omega)]; omega), if_pos ibi, iN_nI (by omega), n4, if_pos (show (0 : Int32) ≤ 0 by decide), if_pos ibi, n5, e1, bnd_some, if_neg (nI_n1 (by omega)), e2, bnd_some, e3.2.2.2.1.2.1, e3.2.2.2.2.1.2.1]
  -- the sum
  obtain ⟨v, hS5, hM5, s1, s2, s3, s4⟩ := sumB (N := N) hN e3
  have fS5 := fS4.trans (s2.mono (fun _ _ => wTk_D (D := D)))
  have fM5 := fM4.trans (s3.mono (fun _ _ => wRd_D))
  rcases s4 with ⟨s5, s6, s7, t5, s8, s9, s10⟩ | ⟨rr, s5, s6⟩
  case inr =>
    have nf := PD_f s6
    rw [s1, s5, bnd_some, bnd_some]
    dsimp only
    rw [if_neg nf]
    rcases s6 with ⟨rfl, t5, l5, h5⟩ | ⟨rfl, dd⟩
    · obtain ⟨x5, y5, g5, k5, m5, -⟩ := id l5
      obtain ⟨hS', hM', f1, f2, f3, f4, f5⟩ := failB (N := N) l5 (a := 2) (by omega) (by omega)
      have f2' : f_M_fails N 2 hM5 = _ := f2
      rw [eFail, if_neg nf] at f1
      have hh : hS5 = hS' := (Prod.mk.inj (Option.some.inj f1)).2
      rw [if_neg ne]
      unfold f_M_wantEnd
      rw [show (59 : Int32) = nI 59 from rfl, sgM_n y5 g5 m5 (by omega) (isg1 h5), bnd_some]
      dsimp only
      rw [if_pos rfl, f2', bnd_some]
      exact ⟨hS5, hM', fS5, fM5.trans (f5.mono (fun _ _ => wF_D)), .inr ⟨rfl, rfl, by rw [hh]; exact f3⟩⟩
    · rw [if_pos rfl]
      exact ⟨hS5, hM5, fS5, fM5, .inr ⟨rfl, rfl, dd⟩⟩
  have pr5 := PR_fr pr4 s2 s3
  rw [s1, s5, bnd_some, bnd_some]
  dsimp only
  rw [if_pos s7, if_neg ne]
  obtain ⟨hS6, hM6, o1, o2, o3⟩ := endB (N := N) s8
  rcases o3 with ⟨j1, j2, j3, j4, j5⟩ | ⟨j1, j2, j3⟩
  case inr =>
    rw [j1, j2, bnd_some, bnd_some]
    exact ⟨hS6, hM6, fS5.trans (o1.mono (fun _ _ => wTk_D (D := D))), fM5.trans (o2.mono (fun _ _ => wF_D)), .inr ⟨rfl, rfl, j3⟩⟩
  subst j3 j4
  obtain ⟨dc, du, dn, ds, nr⟩ := id pr5
  have d39 := dc.2.1
  obtain ⟨du1, du2, M, lM, eM, du5⟩ := id du
  have pl : 8 * cl + q < 48 := by omega
  have ibp : inB (nI (8 * cl + q)) 48 = true := by rw [inB_nI (by omega)]; exact pl
  have bit := nJ_bit lM pl
  rw [j1, j2, bnd_some, bnd_some]
  dsimp only
  rw [if_neg ne, if_neg ne, show (8 : Int32) = nI 8 from rfl, nN_mul, nN_add, nN_mul, nN_add, Nat.mul_comm cl 8, if_pos ibp, eM, iN_nI (show 8 * cl + q < 2147483648 by omega), du5 _ pl, s6, nJ_set pl]
  by_cases w : M.testBit (8 * cl + q) = true
  · obtain ⟨hS7, hM7, f1, f2, f3, f4, f5⟩ := failAtB (N := N) s8 s9 (a := 6) (by omega) (by omega) (nI t.2.1)
    have f1' : f_Reader_fail N 6 (nI t.2.1) hS6 = _ := f1
    have f2' : f_M_failsAt N 6 (nI t.2.1) hM6 = _ := f2
    rw [if_neg (show ¬ lg_cmp ((nJ M >>> (Int32.toInt64 (nI (8 * cl + q)) &&& 63)) &&& 1) 0 = 0 from fun h => by rw [cmp0] at h; rw [bit.mp h] at w; cases w), if_pos w, if_neg ne, f1', f2', bnd_some, bnd_some, if_pos ibp]
    exact ⟨hS7, hM7, fS5.trans (f4.mono (fun _ _ => wTk_D (D := D))), fM5.trans (f5.mono (fun _ _ => wF_D)), .inr ⟨rfl, rfl, f3⟩⟩
  have wf : M.testBit (8 * cl + q) = false := by simpa using w
  rw [if_pos (show lg_cmp ((nJ M >>> (Int32.toInt64 (nI (8 * cl + q)) &&& 63)) &&& 1) 0 = 0 by rw [cmp0]; exact bit.mpr wf), if_neg w, if_pos rfl]
  obtain ⟨hS7, hM7, f1, f2, f3, f4, f5⟩ := failAtB (N := N) s8 s9 (a := 5) (by omega) (by omega) (nI t4.2.1)
  have f1' : f_Reader_fail N 5 (nI t4.2.1) hS6 = _ := f1
  have f2' : f_M_failsAt N 5 (nI t4.2.1) hM6 = _ := f2
  by_cases c1 : lg_cmp v (-9) < 0
  · rw [if_pos c1, if_pos c1, f1', f2', bnd_some, bnd_some, if_pos ibp]
    exact ⟨hS7, hM7, fS5.trans (f4.mono (fun _ _ => wTk_D (D := D))), fM5.trans (f5.mono (fun _ _ => wF_D)), .inr ⟨rfl, rfl, f3⟩⟩
  rw [if_neg c1, if_neg c1]
  by_cases c2 : lg_cmp v 9 ≤ 0
  case neg =>
    rw [if_neg c2, if_neg c2, f1', f2', bnd_some, bnd_some, if_pos ibp]
    exact ⟨hS7, hM7, fS5.trans (f4.mono (fun _ _ => wTk_D (D := D))), fM5.trans (f5.mono (fun _ _ => wF_D)), .inr ⟨rfl, rfl, f3⟩⟩
  have r1 : gR (sJ hS6 3 11 (nJ (M ||| 2 ^ (8 * cl + q)))) 3 9 = D := d39
  have r2 : gJ (sI hM6 84 (8 * cl + q) 1) 68 47 = v := s6
  rw [if_pos c2, if_pos c2, if_pos ibp, if_pos ibp, r1, show (1 : Int32) &&& 1 = 1 from rfl, if_pos ibp, r2]
  rw [cmp_lt] at c1
  rw [cmp_le] at c2
  have fX : Fr (fun c k => (c == 3 && (11 ≤ k && k ≤ 12)) || (11 ≤ c && c ≤ 15) || (D ≤ c && c ≤ D + 5)) hS6 (sI (sJ hS6 3 11 (nJ (M ||| 2 ^ (8 * cl + q)))) (D + 1) (8 * cl + q) v.toInt32) := (Fr.rfl.sJ 3 11 _ rfl).sI (D + 1) _ _ (by simp)
  have fY : Fr (fun c k => (c == 68 && (28 ≤ k && k ≤ 30)) || (74 ≤ c && c ≤ 84)) hM6 (sI (sI hM6 84 (8 * cl + q) 1) 81 (8 * cl + q) v.toInt32) := (Fr.rfl.sI 84 _ _ rfl).sI 81 _ _ rfl
  have oth : ∀ c k, c ≠ D + 1 → gI (sI (sJ hS6 3 11 (nJ (M ||| 2 ^ (8 * cl + q)))) (D + 1) (8 * cl + q) v.toInt32) c k = gI hS6 c k := fun c k h1 => by rw [gI_sI, if_neg (by omega)]; rfl
  refine ⟨_, _, fS5.trans (fX.mono (fun c k h => ?_)), fM5.trans (fY.mono (fun c k h => ?_)), .inl ⟨rfl, rfl, t5, nc, nm, LV_D hD s8 fX fY, j5, by omega, ?_, ?_, ?_, ?_, ?_⟩⟩
  · unfold wDS at h; simp at h ⊢; omega
  · unfold wDM at h; simp at h ⊢; omega
  · exact DC_eq dc rfl (oth _ _ (by omega)) (oth _ _ (by omega)) rfl rfl
  · refine DU_add du a1 nc6 (by omega) (nine c1 c2) lM eM (fun k => ?_) rfl (fun k => ?_) (fun k => ?_)
    · rw [gI_sI]
      by_cases w : k = 8 * cl + q
      · rw [if_pos ⟨rfl, w⟩, if_pos w]
      · rw [if_neg (by omega), if_neg w]; rfl
    · rw [gI_sI]
      by_cases w : k = 8 * cl + q
      · rw [if_pos ⟨rfl, w⟩, if_pos w]
      · rw [if_neg (by omega), if_neg w]; rfl
    · show gI (sI hM6 84 (8 * cl + q) 1) 84 k = _
      rw [gI_sI]
      by_cases w : k = 8 * cl + q
      · rw [if_pos ⟨rfl, w⟩, if_pos w]
      · rw [if_neg (by omega), if_neg w]
  · exact DN_eq dn (fun k => oth _ _ (by omega)) (fun k => rfl)
  · exact DS_eq ds (fun k => oth _ _ (by omega)) (fun k => oth _ _ (by omega)) (fun k => oth _ _ (by omega)) (oth _ _ (by omega)) (fun k => rfl) (fun k => rfl) (fun k => rfl) (fun k => rfl)
  · obtain ⟨S, ns, ST, SP, r⟩ := nr
    exact ⟨S, ns, ST, SP, NR_eq r (oth _ _ (by omega)) (fun k => oth _ _ (by omega)) (fun k => oth _ _ (by omega)) (fun k => oth _ _ (by omega)) (fun k => oth _ _ (by omega)) rfl rfl (fun k => rfl) (fun k => rfl) (fun k => rfl) (fun k => rfl)⟩
