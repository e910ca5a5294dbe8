/-! LAND: a sheet's part -/
def PRn (n : Nat) (B : Nat → Nat) (hS hM : MH) (D nc nm S ns : Nat) (ST SP : Nat → Nat) : Prop := DC hS hM D nc nm ∧ DU hS hM D nc ∧ DN hS hM D nc ∧ DS hS hM D nc ∧ NR n B hS hM S ns nm nc ST SP
theorem PRn_fr {n : Nat} {B : Nat → Nat} {hS hM hS' hM' : MH} {D nc nm S ns : Nat} {ST SP : Nat → Nat} (h : PRn n B hS hM D nc nm S ns ST SP) (fS : Fr wTk hS hS') (fM : Fr wRd hM hM') : PRn n B hS' hM' D nc nm S ns ST SP := by
  obtain ⟨c, u, w, s, r⟩ := h
  have hD := c.1
  have t1 : ∀ q k, 5 ≤ q → wTk q k = false := fun q k hq => by unfold wTk; simp; omega
  refine ⟨DC_eq c (fS.r 3 9 rfl) (fS.i D 0 (t1 _ _ (by omega))) (fS.i D 1 (t1 _ _ (by omega))) (fM.i 68 29 rfl) (fM.i 68 30 rfl), DU_eq u (fun k => fS.i _ k (t1 _ _ (by omega))) (fS.j 3 11 rfl) (fun k => fM.i 81 k rfl) (fun k => fM.i 84 k rfl), DN_eq w (fun k => fS.i _ k (t1 _ _ (by omega))) (fun k => fM.i 82 k rfl), DS_eq s (fun k => fS.i _ k (t1 _ _ (by omega))) (fun k => fS.i _ k (t1 _ _ (by omega))) (fun k => fS.i _ k (t1 _ _ (by omega))) (fS.i 3 12 rfl) (fun k => fM.i 78 k rfl) (fun k => fM.i 79 k rfl) (fun k => fM.i 80 k rfl) (fun k => fM.i 83 k rfl), NR_eq r (fS.i 11 4 rfl) (fun k => fS.i 12 k rfl) (fun k => fS.i 13 k rfl) (fun k => fS.i 14 k rfl) (fun k => fS.i 15 k rfl) (fM.i 68 28 rfl) (fM.i 68 30 rfl) (fun k => fM.j 74 k rfl) (fun k => fM.j 75 k rfl) (fun k => fM.i 76 k rfl) (fun k => fM.i 77 k rfl)⟩
theorem w39_R {c k : Nat} (h : wRd c k = false) : (wF c k || (c == 68 && k == 39)) = false := by
  have := wF_R h
  unfold wRd at h
  simp at h ⊢
  exact ⟨this, by have := h.1; omega⟩
theorem DU_up {hS hM : MH} {D nc c : Nat} (h : DU hS hM D nc) (hc : nc ≤ c) : DU hS hM D c := ⟨h.1, fun a k h1 h2 h3 => h.2.1 a k (by omega) h2 h3, h.2.2⟩
theorem DN_up {hS hM : MH} {D nc c : Nat} (h : DN hS hM D nc) (hc : nc ≤ c) : DN hS hM D c := ⟨h.1, h.2.1, h.2.2.1, fun a k h1 h2 h3 => h.2.2.2 a k (by omega) h2 h3⟩
theorem sheetB {N n : Nat} (hN : 3000 < N) {B : Nat → Nat} {hS hM : MH} {t : Nat × Nat × Nat × Nat} {D nc nm : Nat} (l : LV n B hS hM t) (ht : t.1 = 2) (pr : PR n B hS hM D nc nm) : PO n B D hS hM (f_Reader_readSheet N hS) (f_M_sheet N hM) (fun a b => ∃ t' nc' nm', LV n B a b t' ∧ isg t' 59 ∧ t.2.1 < t'.2.1 ∧ PR n B a b D nc' nm') := by
  have n6 := l.1.1
  have ne : ¬ (1 : Int32) = 0 := by decide
  obtain ⟨dc0, du0, dn0, ds0, S, ns, ST, SP, r0⟩ := id pr
  have hD := dc0.1
  have pr0 : PRn n B hS hM D nc nm S ns ST SP := ⟨dc0, du0, dn0, ds0, r0⟩
  have lt0 := l.2.2.1.2.2.2.1 (by rw [ht]; decide) (by rw [ht]; decide)
  obtain ⟨hS1, hM1, t1, b1, b2, b3, b4, b5, b6, b7⟩ := advB (N := N) (by omega) l (by rw [ht]; decide)
  have pr1 := PRn_fr pr0 b4 (b5.mono (fun _ _ => wN_R))
  have fS1 := b4.mono (fun _ _ => wTk_D (D := D))
  have fM1 := b5.mono (fun _ _ => wN_D)
  unfold f_Reader_readSheet
  rw [b1, bnd_some]
  have ref : f_M_sheet N hM = NP N hM1 (fun v h => ((f_M_next N h).bind (fun x6 =>
  (f_M_wantKey N 5 x6).bind (fun x7 =>
  if x7.1 = 0 then
  (some (0, x7.2))
  else
  (if (gI x7.2 68 10) = 3 then
  (if (gI x7.2 68 13) < 1 then
  (F_M_sheet_107 N (L_M_sheet N N) v x7.2)
  else
  (if 6 < (gI x7.2 68 13) then
  (F_M_sheet_107 N (L_M_sheet N N) v x7.2)
  else
  (if ((gI x7.2 68 29) + (gI x7.2 68 13)) ≤ 6 then
  (F_M_sheet_107 N (L_M_sheet N N) v x7.2)
  else
  ((f_M_fails N 6 x7.2).bind (fun x8 =>
  match narOK 1 x8.1 with
  | true => some (x8.1, x8.2)
  | false => none)))))
  else
  (F_M_sheet_107 N (L_M_sheet N N) v x7.2)))))) := by
    unfold f_M_sheet F_M_sheet_0
    rw [b2, bnd_some]
    rfl
  rw [ref]
  dsimp only
  rcases newB (N := N) hN b3 pr1.2.2.2.2 with ⟨z, c1, c2, c3⟩ | ⟨hS2, hM2, c1, c2, c3, c4, c5⟩
  case inr =>
    rw [c1, c2, bnd_some]
    exact ⟨hS2, hM2, fS1.trans (c4.mono (fun _ _ => wTk_D (D := D))), fM1.trans (c5.mono (fun _ _ => wF_D)), .inr ⟨rfl, rfl, c3⟩⟩
  have p1 : t1.1 ≠ 1 := by rw [z.1]; decide
  have ab := tok_ab (fun k hk => (b3.1.2.2 k hk).1) b3.2.2.1 z
  have c34 : gI hS1 3 4 = nI t1.2.1 := b3.2.2.2.1.2.1
  have c35 : gI hS1 3 5 = nI t1.2.2.1 := b3.2.2.2.1.2.2.1 p1
  rw [c1, c2, bnd_some]
  dsimp only
  rw [if_neg ne, c34, c35]
  obtain ⟨hS2, hM2, t2, e1, e2, e3, e4, e5, e6, e7⟩ := advB (N := N) (by omega) b3 p1
  have fS2 := fS1.trans (e4.mono (fun _ _ => wTk_D (D := D)))
  have fM2 := fM1.trans (e5.mono (fun _ _ => wN_D))
  have pr2 := PRn_fr pr1 e4 (e5.mono (fun _ _ => wN_R))
  rw [e1, e2, bnd_some, bnd_some]
  -- cells
  obtain ⟨hS3, hM3, w1, w2, w3⟩ := wordB (N := N) (by omega) e3 (j := 5) (by omega)
  have fS3 := fS2.trans (w1.mono (fun _ _ => wTk_D (D := D)))
  have fM3 := fM2.trans (w2.mono (fun _ _ => wF_D))
  rcases w3 with ⟨v1, v2, l3, v4, v5⟩ | ⟨v1, v2, v3⟩
  case inr =>
    have v1' : f_Reader_passWord N 1 hS2 = _ := v1
    have v2' : f_M_wantKey N 5 hM2 = _ := v2
    rw [v1', v2', bnd_some, bnd_some]
    exact ⟨hS3, hM3, fS3, fM3, .inr ⟨rfl, rfl, v3⟩⟩
  have v1' : f_Reader_passWord N 1 hS2 = _ := v1
  have v2' : f_M_wantKey N 5 hM2 = _ := v2
  have pr3 := PRn_fr pr2 w1 (w2.mono (fun _ _ => wF_R))
  generalize tok B n t2.2.2.1 = t3 at l3 v4
  rw [v1', v2', bnd_some, bnd_some]
  dsimp only
  rw [if_neg ne, if_neg ne]
  obtain ⟨x3, y3, g3, k3, m3, -⟩ := id l3
  obtain ⟨⟨-, d39, ⟨nc6, nm8⟩, ⟨d0, d29⟩, ⟨d1, d30⟩⟩, -, -, -, -⟩ := id pr3
  have g30 := g3.1
  -- the reference looks at the number of cells first
  have pre : ¬ (t3.1 = 3 ∧ 1 ≤ t3.2.2.2 ∧ t3.2.2.2 ≤ 6 ∧ 6 < nc + t3.2.2.2) → ∀ v : Int64, (if (gI hM3 68 10) = 3 then
      (if (gI hM3 68 13) < 1 then
      (F_M_sheet_107 N (L_M_sheet N N) v hM3)
      else
      (if 6 < (gI hM3 68 13) then
      (F_M_sheet_107 N (L_M_sheet N N) v hM3)
      else
      (if ((gI hM3 68 29) + (gI hM3 68 13)) ≤ 6 then
      (F_M_sheet_107 N (L_M_sheet N N) v hM3)
      else
      ((f_M_fails N 6 hM3).bind (fun x8 =>
      match narOK 1 x8.1 with
      | true => some (x8.1, x8.2)
      | false => none)))))
      else
      (F_M_sheet_107 N (L_M_sheet N N) v hM3)) = F_M_sheet_107 N (L_M_sheet N N) v hM3 := fun q v => by
    by_cases h3 : t3.1 = 3
    · have v9 := g3.2.2.2.2.2.1 h3
      rw [if_pos (by rw [m3.1, h3]; rfl), m3.2.2.2.1 h3, d29, nN_add]
      by_cases q1 : t3.2.2.2 < 1
      · rw [if_pos (by rw [show (1 : Int32) = nI 1 from rfl, nN_lt (by omega) (by omega)]; exact q1)]
      rw [if_neg (by rw [show (1 : Int32) = nI 1 from rfl, nN_lt (by omega) (by omega)]; exact q1)]
      by_cases q2 : 6 < t3.2.2.2
      · rw [if_pos (by rw [show (6 : Int32) = nI 6 from rfl, nN_lt (by omega) (by omega)]; exact q2)]
      rw [if_neg (by rw [show (6 : Int32) = nI 6 from rfl, nN_lt (by omega) (by omega)]; exact q2), if_pos (by rw [show (6 : Int32) = nI 6 from rfl, nN_le (by omega) (by omega)]; omega)]
    · rw [if_neg (by rw [m3.1, show (3 : Int32) = nI 3 from rfl, nN_inj (by omega) (by omega)]; exact h3)]
  rcases numB (N := N) (by omega) l3 (a := 1) (b := 6) (by omega) (by omega) with ⟨hS4, hM4, q1, q2, q3, q4, q5, q6, q7, q8, q9, q10, q11, q12, q13⟩ | ⟨hS4, hM4, q0, q1, q2, q3, q4, q5⟩
  case inr =>
    have q1' : f_Reader_seesNumber N 1 6 hS3 = _ := q1
    have q2' : f_M_number N 1 6 hM3 = _ := q2
    rw [pre (fun w => q0 ⟨w.1, w.2.1, w.2.2.1⟩)]
    unfold F_M_sheet_107
    rw [q1', q2', bnd_some, bnd_some]
    exact ⟨hS4, hM4, fS3.trans (q4.mono (fun _ _ => wTk_D (D := D))), fM3.trans (q5.mono (fun _ _ => wF_D)), .inr ⟨rfl, rfl, q3⟩⟩
  have q5' : f_Reader_seesNumber N 1 6 hS3 = _ := q5
  rw [q5', bnd_some]
  dsimp only
  rw [if_neg ne, d39, d0, q4, nN_add]
  by_cases big : 6 < nc + t3.2.2.2
  · obtain ⟨hS', hM', a1, a2, a3, a4, a5⟩ := failB (N := N) l3 (a := 6) (by omega) (by omega)
    have a1' : f_Reader_fail N 6 (gI hS3 3 4) hS3 = _ := a1
    have a2' : f_M_fails N 6 hM3 = _ := a2
    rw [if_neg (by rw [show (6 : Int32) = nI 6 from rfl, nN_le (by omega) (by omega)]; omega), a1', bnd_some, if_pos (by rw [m3.1, q1]; rfl), m3.2.2.2.1 q1, d29, nN_add, if_neg (by rw [show (1 : Int32) = nI 1 from rfl, nN_lt (by omega) (by omega)]; omega), if_neg (by rw [show (6 : Int32) = nI 6 from rfl, nN_lt (by omega) (by omega)]; omega), if_neg (by rw [show (6 : Int32) = nI 6 from rfl, nN_le (by omega) (by omega)]; omega), a2', bnd_some]
    exact ⟨hS', hM', fS3.trans (a4.mono (fun _ _ => wTk_D (D := D))), fM3.trans (a5.mono (fun _ _ => wF_D)), .inr ⟨rfl, rfl, a3⟩⟩
  rw [pre (fun w => big w.2.2.2)]
  unfold F_M_sheet_107
  have q7' : f_M_number N 1 6 hM3 = _ := q7
  rw [if_pos (by rw [show (6 : Int32) = nI 6 from rfl, nN_le (by omega) (by omega)]; omega), q6, bnd_some, q7', bnd_some]
  dsimp only
  rw [if_neg ne, q8]
  have fS4 := fS3.trans (q12.mono (fun _ _ => wTk_D (D := D)))
  have fM4 := fM3.trans (q13.mono (fun _ _ h => w39_R (wRd_D h)))
  have pr4 := PRn_fr pr3 q12 (q13.mono (fun _ _ => w39_R))
  generalize tok B n t3.2.2.1 = t4 at q9 q10
  -- saves
  obtain ⟨hS5, hM5, w1', w2', w3'⟩ := wordB (N := N) (by omega) q9 (j := 6) (by omega)
  have fS5 := fS4.trans (w1'.mono (fun _ _ => wTk_D (D := D)))
  have fM5 := fM4.trans (w2'.mono (fun _ _ => wF_D))
  rcases w3' with ⟨u1, u2, l5, u4, u5⟩ | ⟨u1, u2, u3⟩
  case inr =>
    have u1' : f_Reader_passWord N 2 hS4 = _ := u1
    have u2' : f_M_wantKey N 6 hM4 = _ := u2
    rw [u1', u2', bnd_some, bnd_some]
    exact ⟨hS5, hM5, fS5, fM5, .inr ⟨rfl, rfl, u3⟩⟩
  have u1' : f_Reader_passWord N 2 hS4 = _ := u1
  have u2' : f_M_wantKey N 6 hM4 = _ := u2
  have pr5 := PRn_fr pr4 w1' (w2'.mono (fun _ _ => wF_R))
  generalize tok B n t4.2.2.1 = t5 at l5 u4
  rw [u1', u2', bnd_some, bnd_some]
  dsimp only
  rw [if_neg ne, if_neg ne]
  rcases numB (N := N) (by omega) l5 (a := 0) (b := 999) (by omega) (by omega) with ⟨hS6, hM6, s1, s2, s3, s4, s5, s6, s7, s8, s9, s10, s11, s12, s13⟩ | ⟨hS6, hM6, -, s1, s2, s3, s4, s5⟩
  case inr =>
    have s1' : f_Reader_seesNumber N 0 999 hS5 = _ := s1
    have s2' : f_M_number N 0 999 hM5 = _ := s2
    rw [s1', s2', bnd_some, bnd_some]
    exact ⟨hS6, hM6, fS5.trans (s4.mono (fun _ _ => wTk_D (D := D))), fM5.trans (s5.mono (fun _ _ => wF_D)), .inr ⟨rfl, rfl, s3⟩⟩
  have s5' : f_Reader_seesNumber N 0 999 hS5 = _ := s5
  have s7' : f_M_number N 0 999 hM5 = _ := s7
  have fS6 := fS5.trans (s12.mono (fun _ _ => wTk_D (D := D)))
  have fM6 := fM5.trans (s13.mono (fun _ _ h => w39_R (wRd_D h)))
  have pr6 := PRn_fr pr5 s12 (s13.mono (fun _ _ => w39_R))
  generalize tok B n t5.2.2.1 = t6 at s9 s10
  rw [s5', s7', bnd_some, bnd_some]
  dsimp only
  rw [if_neg ne, if_neg ne, s4, s6, bnd_some]
  -- the end
  obtain ⟨hS7, hM7, o1, o2, o3⟩ := endB (N := N) s9
  rcases o3 with ⟨i1, i2, i3, i4, i5⟩ | ⟨i1, i2, i3⟩
  case inr =>
    rw [i1, i2, bnd_some, bnd_some]
    exact ⟨hS7, hM7, fS6.trans (o1.mono (fun _ _ => wTk_D (D := D))), fM6.trans (o2.mono (fun _ _ => wF_D)), .inr ⟨rfl, rfl, i3⟩⟩
  subst i3 i4
  obtain ⟨⟨-, d39', -, ⟨d0', d29'⟩, ⟨d1', d30'⟩⟩, du, dn, ds, r⟩ := id pr6
  have S14 : S < 14 := by have := r.1; omega
  have ns6 : ns < 6 := by have := r.1; omega
  have ib : inB (nI ns) 6 = true := by rw [inB_nI (by omega)]; omega
  have r28 : gI hM7 68 28 = nI ns := r.1.2.2.1
  rw [i1, i2, bnd_some, bnd_some]
  dsimp only
  rw [if_neg ne, if_neg ne, d39', d0', eNAdd S14 _ _ _ _ r.1.1, bnd_some, r28, if_pos ib, iN_nI (by omega)]
  have a28 : gI (sJ hM7 74 ns (nJ (nv B t1))) 68 28 = nI ns := r28
  have a29 : gI (sJ hM7 74 ns (nJ (nv B t1))) 68 29 = nI nc := d29'
  have b28 : gI (sI (sJ hM7 74 ns (nJ (nv B t1))) 76 ns (nI nc)) 68 28 = nI ns := r28
  have c28 : gI (sI (sI (sJ hM7 74 ns (nJ (nv B t1))) 76 ns (nI nc)) 77 ns (nI t3.2.2.2)) 68 28 = nI ns := r28
  rw [a28, if_pos ib, iN_nI (by omega), a29, b28, if_pos ib, iN_nI (by omega), c28, show nI ns + 1 = nI (ns + 1) from nN_add ns 1]
  have g9 : gR (sI (sI (sI (sI (sI hS7 12 S (nI t1.2.1)) 13 S (nI t1.2.2.1)) 14 S (nI nc)) 15 S (nI t3.2.2.2)) 11 4 (nI (S + 1))) 3 9 = D := d39'
  have g0 : gI (sI (sI (sI (sI (sI hS7 12 S (nI t1.2.1)) 13 S (nI t1.2.2.1)) 14 S (nI nc)) 15 S (nI t3.2.2.2)) 11 4 (nI (S + 1))) D 0 = nI nc := by
    rw [← d0']
    rcases hD with rfl | rfl <;> rfl
  rw [g9]
  obtain ⟨hS8, j1, j2, j3, j4⟩ := eAddCells (N := N) (by omega) hD (show nc + t3.2.2.2 ≤ 6 by omega) (nI t5.2.2.2) g0
  obtain ⟨hM8, k1, k2, k3', k4, k5, k6, k7⟩ := lSheetM (N := N) (nc := nc) (c := t3.2.2.2) (sv := t5.2.2.2) (by omega) (h := sI (sI (sI (sJ hM7 74 ns (nJ (nv B t1))) 76 ns (nI nc)) 77 ns (nI t3.2.2.2)) 68 28 (nI (ns + 1))) s8 t3.2.2.2 0 (N + 1) (sI (sI (sI (sJ hM7 74 ns (nJ (nv B t1))) 76 ns (nI nc)) 77 ns (nI t3.2.2.2)) 68 28 (nI (ns + 1))) (by omega) (by omega) d29' Fr.rfl (fun k => by rw [if_neg (by omega)]) (fun k => by rw [if_neg (by omega)]) (fun k => by rw [if_neg (by omega)]) (fun k => by rw [if_neg (by omega)])
  have k1' : F_M_sheet_201 N (L_M_sheet N N) (nI t3.2.2.2) 0 (sI (sI (sI (sJ hM7 74 ns (nJ (nv B t1))) 76 ns (nI nc)) 77 ns (nI t3.2.2.2)) 68 28 (nI (ns + 1))) = _ := k1
  rw [j1, bnd_some, k1']
  have fX : Fr (fun c k => (c == 3 && (11 ≤ k && k ≤ 12)) || (11 ≤ c && c ≤ 15) || (D ≤ c && c ≤ D + 5)) hS7 hS8 := (((((Fr.rfl.sI 12 S _ rfl).sI 13 S _ rfl).sI 14 S _ rfl).sI 15 S _ rfl).sI 11 4 _ rfl).trans (j3.mono (fun a b h => by simp at h ⊢; omega))
  have fY : Fr (fun c k => (c == 68 && (28 ≤ k && k ≤ 30)) || (74 ≤ c && c ≤ 84)) hM7 hM8 := ((((Fr.rfl.sJ 74 ns _ rfl).sI 76 ns _ rfl).sI 77 ns _ rfl).sI 68 28 _ rfl).trans (k3'.mono (fun a b h => by unfold wSh; simp at h ⊢; omega))
  have u0 : ∀ c k, c ≠ D → c ≠ D + 3 → gI hS8 c k = gI (sI (sI (sI (sI (sI hS7 12 S (nI t1.2.1)) 13 S (nI t1.2.2.1)) 14 S (nI nc)) 15 S (nI t3.2.2.2)) 11 4 (nI (S + 1))) c k := fun c k h1 h2 => j3.i c k (by simp; omega)
  refine ⟨hS8, hM8, fS6.trans (fX.mono (fun c k h => ?_)), fM6.trans (fY.mono (fun c k h => ?_)), .inl ⟨rfl, rfl, t6, nc + t3.2.2.2, nm, LV_D hD s9 fX fY, i5, by omega, ?_, ?_, ?_, ?_, S + 1, ns + 1, updN ST S t1.2.1, updN SP S t1.2.2.1, ?_⟩⟩
  · unfold wDS at h; simp at h ⊢; omega
  · unfold wDM at h; simp at h ⊢; omega
  · refine ⟨hD, ?_, ⟨by omega, nm8⟩, ⟨j2, k2⟩, ⟨?_, ?_⟩⟩
    · rw [j3.r 3 9 (by simp; omega)]; exact d39'
    · rw [j3.i D 1 (by simp), ← d1']
      rcases hD with rfl | rfl <;> rfl
    · rw [k3'.i 68 30 rfl]; exact d30'
  · refine DU_up (DU_eq du (fun k => ?_) ?_ (fun k => ?_) (fun k => ?_)) (by omega)
    · rw [u0 _ _ (by omega) (by omega)]
      rcases hD with rfl | rfl <;> rfl
    · rw [j3.j 3 11 (by simp; omega)]; rfl
    · rw [k3'.i 81 k rfl]; rfl
    · rw [k3'.i 84 k rfl]; rfl
  · refine DN_up (DN_eq dn (fun k => ?_) (fun k => ?_)) (by omega)
    · rw [u0 _ _ (by omega) (by omega)]
      rcases hD with rfl | rfl <;> rfl
    · rw [k3'.i 82 k rfl]; rfl
  · obtain ⟨ds1, ds2, K, ds3, ds4, ds5, ds6⟩ := ds
    have e3 : ∀ k, gI hS8 (D + 3) k = if nc ≤ k ∧ k < nc + t3.2.2.2 then nI t5.2.2.2 else gI hS7 (D + 3) k := fun k => by
      rw [j4]
      by_cases w : nc ≤ k ∧ k < nc + t3.2.2.2
      · rw [if_pos w, if_pos w]
      · rw [if_neg w, if_neg w]
        rcases hD with rfl | rfl <;> rfl
    have e4' : ∀ k, gI hS8 (D + 4) k = gI hS7 (D + 4) k := fun k => by
      rw [u0 _ _ (by omega) (by omega)]
      rcases hD with rfl | rfl <;> rfl
    have e5' : ∀ k, gI hS8 (D + 5) k = gI hS7 (D + 5) k := fun k => by
      rw [u0 _ _ (by omega) (by omega)]
      rcases hD with rfl | rfl <;> rfl
    refine ⟨fun c hc => ?_, fun c h1 h2 => ?_, K, ds3, ?_, fun c hc => ?_, fun c hc => ds6 c (by omega)⟩
    · rw [e3, e4', e5', k4, k5, k6]
      by_cases w : nc ≤ c ∧ c < nc + t3.2.2.2
      · rw [if_pos w, if_pos w, if_pos w, if_pos w]
        obtain ⟨v1, v2⟩ := ds2 c w.1 (by omega)
        exact ⟨rfl, v1, v2, t5.2.2.2, 100, 100, s3, by omega, by omega, rfl, rfl, rfl⟩
      · rw [if_neg w, if_neg w, if_neg w, if_neg w]
        exact ds1 c (by omega)
    · rw [e4', e5']; exact ds2 c (by omega) h2
    · rw [u0 _ _ (by omega) (by omega)]; exact ds4
    · rw [k7]
      by_cases w : nc ≤ c ∧ c < nc + t3.2.2.2
      · rw [if_pos w, if_neg (by rw [ds6 c w.1]; decide)]
      · rw [if_neg w]; exact ds5 c (by omega)
  · refine NR_sheet r q2 (by omega) ab c3 (by rw [u0 _ _ (by omega) (by omega)]; rfl) (fun k => ?_) (fun k => ?_) (fun k => ?_) (fun k => ?_) (by rw [k3'.i 68 28 rfl]; rfl) (by rw [k3'.i 68 30 rfl]; rfl) (fun k => ?_) (fun k => by rw [k3'.j 75 k rfl]; rfl) (fun k => ?_) (fun k => ?_)
    · rw [u0 _ _ (by omega) (by omega)]
      show gI (sI hS7 12 S (nI t1.2.1)) 12 k = _
      rw [gI_sI]
      by_cases w : k = S
      · rw [if_pos ⟨rfl, w⟩, if_pos w]
      · rw [if_neg (by omega), if_neg w]
    · rw [u0 _ _ (by omega) (by omega)]
      show gI (sI (sI hS7 12 S (nI t1.2.1)) 13 S (nI t1.2.2.1)) 13 k = _
      rw [gI_sI]
      by_cases w : k = S
      · rw [if_pos ⟨rfl, w⟩, if_pos w]
      · rw [if_neg (by omega), if_neg w]; rfl
    · rw [u0 _ _ (by omega) (by omega)]
      show gI (sI (sI (sI hS7 12 S (nI t1.2.1)) 13 S (nI t1.2.2.1)) 14 S (nI nc)) 14 k = _
      rw [gI_sI]
      by_cases w : k = S
      · rw [if_pos ⟨rfl, w⟩, if_pos w]
      · rw [if_neg (by omega), if_neg w]; rfl
    · rw [u0 _ _ (by omega) (by omega)]
      show gI (sI (sI (sI (sI hS7 12 S (nI t1.2.1)) 13 S (nI t1.2.2.1)) 14 S (nI nc)) 15 S (nI t3.2.2.2)) 15 k = _
      rw [gI_sI]
      by_cases w : k = S
      · rw [if_pos ⟨rfl, w⟩, if_pos w]
      · rw [if_neg (by omega), if_neg w]; rfl
    · rw [k3'.j 74 k rfl]
      show gJ (sJ hM7 74 ns (nJ (nv B t1))) 74 k = _
      rw [gJ_sJ]
      by_cases w : k = ns
      · rw [if_pos ⟨rfl, w⟩, if_pos w]; rfl
      · rw [if_neg (by omega), if_neg w]
    · rw [k3'.i 76 k rfl]
      show gI (sI (sJ hM7 74 ns (nJ (nv B t1))) 76 ns (nI nc)) 76 k = _
      rw [gI_sI]
      by_cases w : k = ns
      · rw [if_pos ⟨rfl, w⟩, if_pos w]
      · rw [if_neg (by omega), if_neg w]; rfl
    · rw [k3'.i 77 k rfl]
      show gI (sI (sI (sJ hM7 74 ns (nJ (nv B t1))) 76 ns (nI nc)) 77 ns (nI t3.2.2.2)) 77 k = _
      rw [gI_sI]
      by_cases w : k = ns
      · rw [if_pos ⟨rfl, w⟩, if_pos w]
      · rw [if_neg (by omega), if_neg w]; rfl
