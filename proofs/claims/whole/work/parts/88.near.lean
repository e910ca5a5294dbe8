/-! LAND: near -/
def TN (N : Nat) (a1 a2 v12 : Int32) (h : MH) : Option (Int32 × MH) := (f_M_wantEnd N h).bind (fun x13 =>
  if x13.1 = 0 then
  (some (0, x13.2))
  else
  (if inB ((6 * a2) + v12) 36 = true then
  (if (gI x13.2 82 (iN ((6 * a2) + v12))) = 0 then
  (if inB ((6 * a2) + v12) 36 = true then
  (let h14 : MH := sI x13.2 82 (iN ((6 * a2) + v12)) ((1 : Int32) &&& 1)
  if inB ((6 * v12) + a2) 36 = true then
  (let h15 : MH := sI h14 82 (iN ((6 * v12) + a2)) ((1 : Int32) &&& 1)
  some (1, h15))
  else none)
  else none)
  else
  ((f_M_failsAt N 6 a1 x13.2).bind (fun x16 =>
  match narOK 1 x16.1 with
  | true => some (x16.1, x16.2)
  | false => none)))
  else none))
def C2 (N : Nat) (v1 v4 : Int32) (h : MH) : Option (Int32 × MH) := (f_M_nameHere N h).bind (fun x5 =>
  if (lg_cmp x5.1 ((-1))) = 0 then
  ((f_M_fails N 2 x5.2).bind (fun x6 =>
  match narOK 1 x6.1 with
  | true => some (x6.1, x6.2)
  | false => none))
  else
  ((f_M_sheetOf N x5.1 x5.2).bind (fun x7 =>
  if x7.1 = ((-1)) then
  ((f_M_fails N 3 x7.2).bind (fun x8 =>
  match narOK 1 x8.1 with
  | true => some (x8.1, x8.2)
  | false => none))
  else
  ((f_M_next N x7.2).bind (fun x9 =>
  if (gI x9 68 10) = 3 then
  (if inB x7.1 6 = true then
  (if (gI x9 77 (iN x7.1)) ≤ (gI x9 68 13) then
  (F_M_near_109 N v1 v4 x7.1 x9)
  else
  (if inB x7.1 6 = true then
  (if ((gI x9 76 (iN x7.1)) + (gI x9 68 13)) = v4 then
  ((f_M_fails N 4 x9).bind (fun x10 =>
  match narOK 1 x10.1 with
  | true => some (x10.1, x10.2)
  | false => none))
  else
  (F_M_near_109 N v1 v4 x7.1 x9))
  else none))
  else none)
  else
  (F_M_near_109 N v1 v4 x7.1 x9))))))
theorem cell2B {N n : Nat} (hN : 3000 < N) {B : Nat → Nat} {hS hM : MH} {t : Nat × Nat × Nat × Nat} {D nc nm : Nat} (l : LV n B hS hM t) (pr : PR n B hS hM D nc nm) (v1 : Int32) {a : Nat} (ha : a < nc) :
    (∃ cl hS1 hS' hM' t', cl < nc ∧ cl ≠ a ∧ f_Reader_seeCell N hS = some (nI cl, hS1) ∧ f_Reader_advance N hS1 = some hS' ∧ C2 N v1 (nI a) hM = TN N v1 (nI a) (nI cl) hM' ∧ LV n B hS' hM' t' ∧ t.2.1 < t'.2.1 ∧ Fr wTk hS hS' ∧ Fr wRd hM hM') ∨ (∃ hS1 hS' hM', f_Reader_seeCell N hS = some (nI a, hS1) ∧ f_Reader_fail N 4 (gI hS1 3 4) hS1 = some (0, hS') ∧ C2 N v1 (nI a) hM = some (0, hM') ∧ DD n B hS' hM' ∧ Fr wTk hS hS' ∧ Fr wRd hM hM') ∨ (∃ hS' hM', f_Reader_seeCell N hS = some (-1, hS') ∧ C2 N v1 (nI a) hM = some (0, hM') ∧ DD n B hS' hM' ∧ Fr wTk hS hS' ∧ Fr wRd hM hM') := by
  obtain ⟨x, y, g, k, m, -⟩ := id l
  obtain ⟨dc, -, -, -, S, ns, ST, SP, r⟩ := id pr
  have n6 := x.1
  have nc6 := dc.2.2.1.1
  have ne : ¬ (1 : Int32) = 0 := by decide
  obtain ⟨in1, in0⟩ := eIsName (N := N) (by omega) x g k
  obtain ⟨im1, im0⟩ := eNameM (N := N) (by omega) y g m
  unfold f_Reader_seeCell C2
  by_cases z : nmd B t
  case neg =>
    obtain ⟨hS', hM', a1, a2, a3, a4, a5⟩ := failB (N := N) l (a := 2) (by omega) (by omega)
    have a1' : f_Reader_fail N 2 (gI hS 3 4) hS = _ := a1
    have a2' : f_M_fails N 2 hM = _ := a2
    rw [in0 z, im0 z, bnd_some, bnd_some]
    dsimp only
    rw [if_pos rfl, if_pos (by decide), a1', a2', bnd_some, bnd_some]
    exact .inr (.inr ⟨hS', hM', rfl, rfl, a3, a4, a5.mono (fun _ _ => wF_R)⟩)
  have p : t.1 ≠ 1 := by rw [z.1]; decide
  have lt := g.2.2.2.1 p (by rw [z.1]; decide)
  have nm1 := nv_m1 (fun k hk => (x.2.2 k hk).1) g z
  rw [in1 z, im1 z, bnd_some, bnd_some]
  dsimp only
  rw [if_neg ne, if_neg nm1, k.2.1, k.2.2.1 p]
  have none3 : ∃ hS' hM', f_Reader_fail N 3 (nI t.2.1) hS = some (0, hS') ∧ f_M_fails N 3 hM = some (0, hM') ∧ DD n B hS' hM' ∧ Fr wTk hS hS' ∧ Fr wF hM hM' := by
    obtain ⟨hS', hM', a1, a2, a3, a4, a5⟩ := failB (N := N) l (a := 3) (by omega) (by omega)
    rw [k.2.1] at a1
    exact ⟨hS', hM', a1, a2, a3, a4, a5⟩
  rcases nameB (N := N) (by omega) l r z with ⟨n1, n2, n3, n4⟩ | ⟨i, s, f, c, i1, s1, n1, n2, n3, n4, n5, n6', n7, n8, n9⟩ | ⟨i, q, i1, q1, n1, n2, n3, n4, n5⟩
  · obtain ⟨hS', hM', a1, a2, a3, a4, a5⟩ := none3
    rw [n1, n2, bnd_some, bnd_some]
    dsimp only
    rw [if_pos (by decide), if_pos rfl, k.2.1, a1, a2, bnd_some, bnd_some]
    exact .inr (.inr ⟨hS', hM', rfl, rfl, a3, a4, a5.mono (fun _ _ => wF_R)⟩)
  · have S14 : S ≤ 14 := by have := r.1; omega
    have ns6 : ns ≤ 6 := by have := r.1; omega
    have ib : inB (nI i) 14 = true := by rw [inB_nI (by omega)]; omega
    have ib2 : inB (nI s) 6 = true := by rw [inB_nI (by omega)]; omega
    obtain ⟨hS1, hM1, t1, b1, b2, b3, b4, b5, b6, b7⟩ := advB (N := N) (by omega) l p
    have h77 : gI hM1 77 s = nI c := by rw [b5.i 77 s rfl]; exact n7
    have h76' : gI hM1 76 s = nI f := by rw [b5.i 76 s rfl]; exact n6'
    have h15 : gI hS1 15 i = nI c := by rw [b4.i 15 i rfl]; exact n5
    obtain ⟨x1, y1, g1, k1, m1, -⟩ := id b3
    have g10 := g1.1
    rw [n1, n2, bnd_some, bnd_some]
    dsimp only
    rw [if_neg (show ¬ nI i < 0 by rw [show (0 : Int32) = nI 0 from rfl, nN_lt (by omega) (by omega)]; omega), if_pos ib, iN_nI (by omega), n5, if_neg (show ¬ nI c = 0 by rw [show (0 : Int32) = nI 0 from rfl, nN_inj (by omega) (by omega)]; omega), if_neg (nI_n1 (by omega)), b1, b2, bnd_some, bnd_some, if_pos ib, if_pos ib2, iN_nI (by omega), h15, h77, show nI c - 1 = nI (c - 1) from nN_sub (show 1 ≤ c by omega), h76']
    have go : ∀ q : Bool, F_M_near_109 N v1 (nI a) (nI s) hM1 = (f_M_number N 0 (nI (c - 1)) hM1).bind (fun x11 =>
        if x11.1 = 0 then
        (some (0, x11.2))
        else
        (if inB (nI s) 6 = true then
        (let v12 : Int32 := (gI x11.2 76 s) + (gI x11.2 68 39)
        TN N v1 (nI a) v12 x11.2)
        else none)) := fun _ => by
      unfold F_M_near_109 TN
      rw [if_pos ib2, iN_nI (by omega), h77, show nI c - 1 = nI (c - 1) from nN_sub (show 1 ≤ c by omega)]
      rfl
    rcases numB (N := N) (by omega) b3 (a := 0) (b := c - 1) (by omega) (by omega) with ⟨hS2, hM2, q1, q2, q3, q4, q5, q6, q7, q8, q9, q10, q11, q12, q13⟩ | ⟨hS2, hM2, q0, q1, q2, q3, q4, q5⟩
    · have q5' : f_Reader_seesNumber N 0 (nI (c - 1)) hS1 = _ := q5
      have q7' : f_M_number N 0 (nI (c - 1)) hM1 = _ := q7
      have h14 : gI hS1 14 i = nI f := by rw [b4.i 14 i rfl]; exact n4
      have h76 : gI hM2 76 s = nI f := by rw [q13.i 76 s rfl]; exact h76'
      rw [q5', bnd_some]
      dsimp only
      rw [if_neg ne, if_pos ib, h14, q4, nN_add, if_pos (by rw [m1.1, q1]; rfl), m1.2.2.2.1 q1, if_neg (by rw [nN_le (by omega) (by omega)]; omega), if_pos ib2, nN_add]
      by_cases same : f + t1.2.2.2 = a
      · obtain ⟨hS', hM', a1, a2, a3, a4, a5⟩ := failB (N := N) b3 (a := 4) (by omega) (by omega)
        have a1' : f_Reader_fail N 4 (gI hS1 3 4) hS1 = _ := a1
        have a2' : f_M_fails N 4 hM1 = _ := a2
        rw [if_pos (by rw [same]), a2', bnd_some, same]
        exact .inr (.inl ⟨hS1, hS', hM', rfl, a1', rfl, a3, b4.trans a4, (b5.mono (fun _ _ => wN_R)).trans (a5.mono (fun _ _ => wF_R))⟩)
      · rw [if_neg (by rw [nN_inj (by omega) (by omega)]; exact same), go true, q7', bnd_some]
        dsimp only
        rw [if_neg ne, if_pos ib2, h76, q8, nN_add]
        refine .inl ⟨f + t1.2.2.2, hS1, hS2, hM2, tok B n t1.2.2.1, by omega, same, rfl, q6, rfl, q9, by omega, b4.trans q12, (b5.mono (fun _ _ => wN_R)).trans (q13.mono (fun _ _ => w39_R))⟩
    · have q1' : f_Reader_seesNumber N 0 (nI (c - 1)) hS1 = _ := q1
      have q2' : f_M_number N 0 (nI (c - 1)) hM1 = _ := q2
      have ref : (if gI hM1 68 10 = 3 then (if nI c ≤ gI hM1 68 13 then F_M_near_109 N v1 (nI a) (nI s) hM1 else if inB (nI s) 6 = true then (if nI f + gI hM1 68 13 = nI a then ((f_M_fails N 4 hM1).bind (fun x10 =>
          match narOK 1 x10.1 with
          | true => some (x10.1, x10.2)
          | false => none)) else F_M_near_109 N v1 (nI a) (nI s) hM1) else none) else F_M_near_109 N v1 (nI a) (nI s) hM1) = F_M_near_109 N v1 (nI a) (nI s) hM1 := by
        by_cases h3 : t1.1 = 3
        · have v9 := g1.2.2.2.2.2.1 h3
          have : ¬ t1.2.2.2 ≤ c - 1 := fun w => q0 ⟨h3, by omega, w⟩
          rw [if_pos (by rw [m1.1, h3]; rfl), m1.2.2.2.1 h3, if_pos (by rw [nN_le (by omega) (by omega)]; omega)]
        · rw [if_neg (by rw [m1.1, show (3 : Int32) = nI 3 from rfl, nN_inj (by omega) (by omega)]; exact h3)]
      rw [ref, go true, q1', q2', bnd_some, bnd_some]
      dsimp only
      rw [if_pos rfl, if_pos rfl]
      exact .inr (.inr ⟨hS2, hM2, rfl, rfl, q3, b4.trans q4, (b5.mono (fun _ _ => wN_R)).trans (q5.mono (fun _ _ => wF_R))⟩)
  · obtain ⟨hS', hM', a1, a2, a3, a4, a5⟩ := none3
    have S14 : S ≤ 14 := by have := r.1; omega
    rw [n1, n2, bnd_some, bnd_some]
    dsimp only
    rw [if_neg (show ¬ nI i < 0 by rw [show (0 : Int32) = nI 0 from rfl, nN_lt (by omega) (by omega)]; omega), if_pos (by rw [inB_nI (by omega)]; omega), iN_nI (by omega), if_pos n4, if_pos rfl, k.2.1, a1, a2, bnd_some, bnd_some]
    exact .inr (.inr ⟨hS', hM', rfl, rfl, a3, a4, a5.mono (fun _ _ => wF_R)⟩)
/-- two cells made near -/
theorem DN_add {hS hM hS' hM' : MH} {D nc a b : Nat} (h : DN hS hM D nc) (n6 : nc ≤ 6) (ha : a < nc) (hb : b < nc) (ab : b ≠ a) {sa sb : Nat} (ea : gI hS (D + 2) a = nI sa) (la : sa < 64) (eb : gI hS (D + 2) b = nI sb) (lb : sb < 64) (eS : ∀ k, gI hS' (D + 2) k = if k = b then nI (sb ||| 2 ^ a) else if k = a then nI (sa ||| 2 ^ b) else gI hS (D + 2) k) (eM : ∀ k, gI hM' 82 k = if k = 6 * b + a then 1 else if k = 6 * a + b then 1 else gI hM 82 k) : DN hS' hM' D nc := by
  obtain ⟨h1, h2, h3, h4⟩ := h
  have bit : ∀ x s, gI hS (D + 2) x = nI s → s < 64 → x < 6 → ∀ y, y < 6 → gI hM 82 (6 * x + y) = if s.testBit y = true then 1 else 0 := fun x s e ls hx y hy => by
    obtain ⟨s', l', e', q⟩ := h1 x hx
    rw [e, nN_inj (by omega) (by omega)] at e'
    subst e'
    exact q y hy
  have lt : ∀ s k, s < 64 → k < 6 → s ||| 2 ^ k < 64 := fun s k h1 h2 => Nat.or_lt_two_pow (n := 6) h1 (Nat.pow_lt_pow_right (by omega) h2)
  refine ⟨fun x hx => ?_, fun x y hx hy => ?_, fun x hx => ?_, fun x y h5 h6 h7 => ?_⟩
  · rw [eS]
    by_cases zb : x = b
    · refine ⟨sb ||| 2 ^ a, lt sb a lb (by omega), by rw [if_pos zb], fun y hy => ?_⟩
      rw [eM, tb_or2]
      by_cases ya : y = a
      · rw [if_pos (by omega), if_pos (by rw [ya]; simp)]
      · rw [if_neg (by omega), if_neg (by omega), zb, bit b sb eb lb (by omega) y hy]
        have : decide (a = y) = false := by simp; omega
        rw [this, Bool.or_false]
    · rw [if_neg zb]
      by_cases za : x = a
      · refine ⟨sa ||| 2 ^ b, lt sa b la (by omega), by rw [if_pos za], fun y hy => ?_⟩
        rw [eM, tb_or2]
        by_cases yb : y = b
        · rw [if_neg (by omega), if_pos (by omega), if_pos (by rw [yb]; simp)]
        · rw [if_neg (by omega), if_neg (by omega), za, bit a sa ea la (by omega) y hy]
          have : decide (b = y) = false := by simp; omega
          rw [this, Bool.or_false]
      · rw [if_neg za]
        obtain ⟨s, s1, s2, s3⟩ := h1 x hx
        refine ⟨s, s1, s2, fun y hy => ?_⟩
        rw [eM, if_neg (by omega), if_neg (by omega)]
        exact s3 y hy
  · rw [eM, eM]
    by_cases c1 : x = b ∧ y = a
    · rw [if_pos (by omega), if_neg (by omega), if_pos (by omega)]
    · by_cases c2 : x = a ∧ y = b
      · rw [if_neg (by omega), if_pos (by omega), if_pos (by omega)]
      · rw [if_neg (by omega), if_neg (by omega), if_neg (by omega), if_neg (by omega)]
        exact h2 x y hx hy
  · rw [eM, if_neg (by omega), if_neg (by omega)]
    exact h3 x hx
  · rw [eM, if_neg (by omega), if_neg (by omega)]
    exact h4 x y h5 h6 h7
theorem nearB {N n : Nat} (hN : 3000 < N) {B : Nat → Nat} {hS hM : MH} {t : Nat × Nat × Nat × Nat} {D nc nm : Nat} (l : LV n B hS hM t) (ht : t.1 = 2) (pr : PR n B hS hM D nc nm) : PO n B D hS hM (f_Reader_readNear N (nI t.2.1) hS) (f_M_near N hM) (fun a b => ∃ t' nc' nm', LV n B a b t' ∧ isg t' 59 ∧ t.2.1 < t'.2.1 ∧ PR n B a b D nc' nm') := by
  have n6 := l.1.1
  have ne : ¬ (1 : Int32) = 0 := by decide
  have hD := pr.1.1
  have nc6 := pr.1.2.2.1.1
  have lt0 := l.2.2.1.2.2.2.1 (by rw [ht]; decide) (by rw [ht]; decide)
  obtain ⟨hS1, hM1, t1, b1, b2, b3, b4, b5, b6, b7⟩ := advB (N := N) (by omega) l (by rw [ht]; decide)
  have pr1 := PR_fr pr b4 (b5.mono (fun _ _ => wN_R))
  have fS1 := b4.mono (fun _ _ => wTk_D (D := D))
  have fM1 := b5.mono (fun _ _ => wN_D)
  have ref : f_M_near N hM = (f_M_cell N hM1).bind (fun x3 =>
      if x3.1 = 0 then
      (some (0, x3.2))
      else C2 N (nI t.2.1) (gI x3.2 68 39) x3.2) := by
    unfold f_M_near
    rw [b2, bnd_some, l.2.2.2.2.1.2.1]
    rfl
  rw [ref]
  unfold f_Reader_readNear
  rw [b1, bnd_some]
  rcases cellB (N := N) hN b3 pr1 with ⟨a, hS2, hS3, hM3, t3, a1, a2, a3, a4, a5, a6, a7, a8, a9⟩ | ⟨hS2, hM2, a1, a2, a3, a4, a5⟩
  case inr =>
    rw [a1, a2, bnd_some, bnd_some]
    dsimp only
    rw [if_neg (by decide), if_pos rfl]
    exact ⟨hS2, hM2, fS1.trans (a4.mono (fun _ _ => wTk_D (D := D))), fM1.trans (a5.mono (fun _ _ => wRd_D)), .inr ⟨rfl, rfl, a3⟩⟩
  have pr3 := PR_fr pr1 a8 a9
  have fS3 := fS1.trans (a8.mono (fun _ _ => wTk_D (D := D)))
  have fM3 := fM1.trans (a9.mono (fun _ _ => wRd_D))
  rw [a2, a4, bnd_some, bnd_some]
  dsimp only
  rw [if_pos (show (0 : Int32) ≤ nI a by rw [show (0 : Int32) = nI 0 from rfl, nN_le (by omega) (by omega)]; omega), if_neg ne, a3, bnd_some, a5]
  rcases cell2B (N := N) hN a6 pr3 (nI t.2.1) a1 with ⟨b, hS4, hS5, hM5, t5, c1, c2, c3, c4, c5, c6, c7, c8, c9⟩ | ⟨hS4, hS5, hM5, c1, c2, c3, c4, c5, c6⟩ | ⟨hS5, hM5, c1, c2, c3, c4, c5⟩
  · have pr5 := PR_fr pr3 c8 c9
    have fS5 := fS3.trans (c8.mono (fun _ _ => wTk_D (D := D)))
    have fM5 := fM3.trans (c9.mono (fun _ _ => wRd_D))
    rw [c3, c5, bnd_some]
    dsimp only
    rw [if_pos (show (0 : Int32) ≤ nI b by rw [show (0 : Int32) = nI 0 from rfl, nN_le (by omega) (by omega)]; omega), if_neg (show ¬ nI b = nI a by rw [nN_inj (by omega) (by omega)]; exact c2), c4, bnd_some]
    unfold TN
    obtain ⟨hS6, hM6, o1, o2, o3⟩ := endB (N := N) c6
    rcases o3 with ⟨i1, i2, i3, i4, i5⟩ | ⟨i1, i2, i3⟩
    case inr =>
      rw [i1, i2, bnd_some, bnd_some]
      exact ⟨hS6, hM6, fS5.trans (o1.mono (fun _ _ => wTk_D (D := D))), fM5.trans (o2.mono (fun _ _ => wF_D)), .inr ⟨rfl, rfl, i3⟩⟩
    subst i3 i4
    obtain ⟨dc, du, dn, ds, nr⟩ := id pr5
    have d39 := dc.2.1
    obtain ⟨sa, la, ea, qa⟩ := dn.1 a (by omega)
    obtain ⟨sb, lb, eb, qb⟩ := dn.1 b (by omega)
    have iba : inB (nI a) 6 = true := by rw [inB_nI (by omega)]; omega
    have ibb : inB (nI b) 6 = true := by rw [inB_nI (by omega)]; omega
    have ib1 : inB (nI (6 * a + b)) 36 = true := by rw [inB_nI (by omega)]; omega
    have ib2 : inB (nI (6 * b + a)) 36 = true := by rw [inB_nI (by omega)]; omega
    have sd : ((nI sa >>> (nI b &&& 31)) &&& 1 = 0) ↔ sa.testBit b = false := sset_d ⟨sa, la⟩ ⟨b, by omega⟩
    rw [i1, i2, bnd_some, bnd_some]
    dsimp only
    rw [if_neg ne, if_neg ne, d39, show (6 : Int32) = nI 6 from rfl, nN_mul, nN_add, if_pos ib1, iN_nI (show 6 * a + b < 2147483648 by omega), qa b (by omega), nN_mul, nN_add]
    unfold f_Land_areNear
    rw [if_pos iba, iN_nI (by omega), ea]
    by_cases w : sa.testBit b = true
    · obtain ⟨hS7, hM7, f1, f2, f3, f4, f5⟩ := failAtB (N := N) c6 (by rw [i5.1]; decide) (a := 6) (by omega) (by omega) (nI t.2.1)
      have f1' : f_Reader_fail N (nI 6) (nI t.2.1) hS6 = _ := f1
      have f2' : f_M_failsAt N (nI 6) (nI t.2.1) hM6 = _ := f2
      rw [if_neg (fun q => by rw [sd.mp q] at w; cases w), bnd_some, if_pos w]
      dsimp only
      rw [if_neg ne, if_neg ne, f1', f2', bnd_some, bnd_some]
      exact ⟨hS7, hM7, fS5.trans (f4.mono (fun _ _ => wTk_D (D := D))), fM5.trans (f5.mono (fun _ _ => wF_D)), .inr ⟨rfl, rfl, f3⟩⟩
    · have wf : sa.testBit b = false := by simpa using w
      have r1 : gR (sI hS6 (D + 2) a (nI (sa ||| 2 ^ b))) 3 9 = D := d39
      have e2 : gI (sI hS6 (D + 2) a (nI (sa ||| 2 ^ b))) (D + 2) b = nI sb := by rw [gI_sI, if_neg (by omega)]; exact eb
      rw [if_pos (sd.mpr wf), bnd_some, if_neg w]
      dsimp only
      rw [if_pos rfl, if_pos rfl, if_pos iba, if_pos iba, d39, iN_nI (by omega), ea, shl_n (by omega), nI_or, if_pos ibb, if_pos ibb, r1, iN_nI (by omega), e2, shl_n (by omega), nI_or, if_pos ib1, show (1 : Int32) &&& 1 = 1 from rfl, if_pos ib2]
      have fX : Fr (fun c k => (c == 3 && (11 ≤ k && k ≤ 12)) || (11 ≤ c && c ≤ 15) || (D ≤ c && c ≤ D + 5)) hS6 (sI (sI hS6 (D + 2) a (nI (sa ||| 2 ^ b))) (D + 2) b (nI (sb ||| 2 ^ a))) := (Fr.rfl.sI (D + 2) a _ (by simp)).sI (D + 2) b _ (by simp)
      have fY : Fr (fun c k => (c == 68 && (28 ≤ k && k ≤ 30)) || (74 ≤ c && c ≤ 84)) hM6 (sI (sI hM6 82 (6 * a + b) 1) 82 (6 * b + a) 1) := (Fr.rfl.sI 82 _ _ rfl).sI 82 _ _ rfl
      have oth : ∀ c k, c ≠ D + 2 → gI (sI (sI hS6 (D + 2) a (nI (sa ||| 2 ^ b))) (D + 2) b (nI (sb ||| 2 ^ a))) c k = gI hS6 c k := fun c k hc => by rw [gI_sI, if_neg (by omega), gI_sI, if_neg (by omega)]
      refine ⟨_, _, fS5.trans (fX.mono (fun c k h => ?_)), fM5.trans (fY.mono (fun c k h => ?_)), .inl ⟨rfl, rfl, t5, nc, nm, LV_D hD c6 fX fY, i5, by omega, ?_, ?_, ?_, ?_, ?_⟩⟩
      · unfold wDS at h; simp at h ⊢; omega
      · unfold wDM at h; simp at h ⊢; omega
      · exact DC_eq dc rfl (oth _ _ (by omega)) (oth _ _ (by omega)) rfl rfl
      · exact DU_eq du (fun k => oth _ _ (by omega)) rfl (fun k => rfl) (fun k => rfl)
      · refine DN_add dn nc6 a1 c1 c2 ea la eb lb (fun k => ?_) (fun k => ?_)
        · rw [gI_sI]
          by_cases zb : k = b
          · rw [if_pos ⟨rfl, zb⟩, if_pos zb]
          · rw [if_neg (by omega), if_neg zb, gI_sI]
            by_cases za : k = a
            · rw [if_pos ⟨rfl, za⟩, if_pos za]
            · rw [if_neg (by omega), if_neg za]
        · rw [gI_sI]
          by_cases zb : k = 6 * b + a
          · rw [if_pos ⟨rfl, zb⟩, if_pos zb]
          · rw [if_neg (by omega), if_neg zb, gI_sI]
            by_cases za : k = 6 * a + b
            · rw [if_pos ⟨rfl, za⟩, if_pos za]
            · rw [if_neg (by omega), if_neg za]
      · exact DS_eq ds (fun k => oth _ _ (by omega)) (fun k => oth _ _ (by omega)) (fun k => oth _ _ (by omega)) (oth _ _ (by omega)) (fun k => rfl) (fun k => rfl) (fun k => rfl) (fun k => rfl)
      · obtain ⟨S, ns, ST, SP, r⟩ := nr
        exact ⟨S, ns, ST, SP, NR_eq r (oth _ _ (by omega)) (fun k => oth _ _ (by omega)) (fun k => oth _ _ (by omega)) (fun k => oth _ _ (by omega)) (fun k => oth _ _ (by omega)) rfl rfl (fun k => rfl) (fun k => rfl) (fun k => rfl) (fun k => rfl)⟩
  · rw [c1, c3, bnd_some]
    dsimp only
    rw [if_pos (show (0 : Int32) ≤ nI a by rw [show (0 : Int32) = nI 0 from rfl, nN_le (by omega) (by omega)]; omega), if_pos rfl, c2, bnd_some]
    exact ⟨hS5, hM5, fS3.trans (c5.mono (fun _ _ => wTk_D (D := D))), fM3.trans (c6.mono (fun _ _ => wRd_D)), .inr ⟨rfl, rfl, c4⟩⟩
  · rw [c1, c2, bnd_some]
    dsimp only
    rw [if_neg (by decide)]
    exact ⟨hS5, hM5, fS3.trans (c4.mono (fun _ _ => wTk_D (D := D))), fM3.trans (c5.mono (fun _ _ => wRd_D)), .inr ⟨rfl, rfl, c3⟩⟩
