/-! LAND: new names; marks -/
def NP (N : Nat) (h : MH) (cont : Int64 → MH → Option (Int32 × MH)) : Option (Int32 × MH) :=
  (f_M_nameHere N h).bind (fun x2 =>
  if (lg_cmp x2.1 ((-1))) = 0 then
  ((f_M_fails N 2 x2.2).bind (fun x3 =>
  match narOK 1 x3.1 with
  | true => some (x3.1, x3.2)
  | false => none))
  else
  ((f_M_sheetOf N x2.1 x2.2).bind (fun x4 =>
  if x4.1 = ((-1)) then
  ((f_M_markOf N x2.1 x4.2).bind (fun x5 =>
  if x5.1 = ((-1)) then
  (cont x2.1 x5.2)
  else
  ((f_M_fails N 3 x5.2).bind (fun x11 =>
  match narOK 1 x11.1 with
  | true => some (x11.1, x11.2)
  | false => none))))
  else
  ((f_M_fails N 3 x4.2).bind (fun x12 =>
  match narOK 1 x12.1 with
  | true => some (x12.1, x12.2)
  | false => none)))))
theorem nv_m1 {n : Nat} {B : Nat → Nat} {t : Nat × Nat × Nat × Nat} (hB : ∀ k, k < n → B k < 256) (g : TG B n t) (z : nmd B t) : ¬ lg_cmp (nJ (nv B t)) (-1) = 0 := by
  obtain ⟨nl, -⟩ := nv_lt hB g z
  rw [cmp0]
  intro w
  have := congrArg Int64.toInt w
  rw [nJ_toInt nl, show (-1 : Int64).toInt = -1 from rfl] at this
  omega
theorem newB {N n : Nat} (hN : 3000 < N) {B : Nat → Nat} {hS hM : MH} {t : Nat × Nat × Nat × Nat} (l : LV n B hS hM t) {S ns nm nc : Nat} {ST SP : Nat → Nat} (r : NR n B hS hM S ns nm nc ST SP) :
    (nmd B t ∧ f_Reader_seesNewName N hS = some (1, hS) ∧ (∀ cont, NP N hM cont = cont (nJ (nv B t)) hM) ∧ ∀ i, i < S → NV B ST SP i ≠ nv B t) ∨ (∃ hS' hM', f_Reader_seesNewName N hS = some (0, hS') ∧ (∀ cont, NP N hM cont = some (0, hM')) ∧ DD n B hS' hM' ∧ Fr wTk hS hS' ∧ Fr wF hM hM') := by
  obtain ⟨x, y, g, k, m, -⟩ := id l
  have n6 := x.1
  obtain ⟨in1, in0⟩ := eIsName (N := N) (by omega) x g k
  obtain ⟨im1, im0⟩ := eNameM (N := N) (by omega) y g m
  have ne : ¬ (1 : Int32) = 0 := by decide
  unfold f_Reader_seesNewName NP
  by_cases z : nmd B t
  case neg =>
    obtain ⟨hS', hM', a1, a2, a3, a4, a5⟩ := failB (N := N) l (a := 2) (by omega) (by omega)
    have a1' : f_Reader_fail N 2 (gI hS 3 4) hS = _ := a1
    have a2' : f_M_fails N 2 hM = _ := a2
    refine .inr ⟨hS', hM', ?_, fun cont => ?_, a3, a4, a5⟩
    · rw [in0 z, bnd_some]
      dsimp only
      rw [if_pos rfl, a1', bnd_some]
      rfl
    · rw [im0 z, bnd_some]
      dsimp only
      rw [if_pos (by decide), a2', bnd_some]
      rfl
  have p : t.1 ≠ 1 := by rw [z.1]; decide
  have nm1 := nv_m1 (fun k hk => (x.2.2 k hk).1) g z
  have S14 : S ≤ 14 := by have := r.1; omega
  have bad : (∃ i, i < S ∧ f_Names_find N (nI t.2.1) (nI t.2.2.1) hS = some (nI i, hS)) → (∃ hS' hM', f_Reader_seesNewName N hS = some (0, hS') ∧ f_M_fails N 3 hM = some (0, hM') ∧ DD n B hS' hM' ∧ Fr wTk hS hS' ∧ Fr wF hM hM') := by
    rintro ⟨i, i1, n1⟩
    obtain ⟨hS', hM', a1, a2, a3, a4, a5⟩ := failB (N := N) l (a := 3) (by omega) (by omega)
    have a1' : f_Reader_fail N 3 (gI hS 3 4) hS = _ := a1
    refine ⟨hS', hM', ?_, a2, a3, a4, a5⟩
    unfold f_Reader_seesNewName
    rw [in1 z, bnd_some]
    dsimp only
    rw [if_neg ne, k.2.1, k.2.2.1 p, n1, bnd_some]
    dsimp only
    rw [if_neg (show ¬ nI i < 0 by rw [show (0 : Int32) = nI 0 from rfl, nN_lt (by omega) (by omega)]; omega), a1', bnd_some]
    rfl
  rcases nameB (N := N) (by omega) l r z with ⟨n1, n2, n3, n4⟩ | ⟨i, s, f, c, i1, s1, n1, n2, n3, n4, n5, n6', n7, n8, n9⟩ | ⟨i, q, i1, q1, n1, n2, n3, n4, n5⟩
  · refine .inl ⟨z, ?_, fun cont => ?_, n4⟩
    · rw [in1 z, bnd_some]
      dsimp only
      rw [if_neg ne, k.2.1, k.2.2.1 p, n1, bnd_some]
      dsimp only
      rw [if_pos (by decide)]
    · rw [im1 z, bnd_some]
      dsimp only
      rw [if_neg nm1, n2, bnd_some]
      dsimp only
      rw [if_pos rfl, n3, bnd_some]
      dsimp only
      rw [if_pos rfl]
  · obtain ⟨hS', hM', a1, a2, a3, a4, a5⟩ := bad ⟨i, i1, n1⟩
    unfold f_Reader_seesNewName at a1
    have s6 : ns ≤ 6 := by have := r.1; omega
    refine .inr ⟨hS', hM', a1, fun cont => ?_, a3, a4, a5⟩
    rw [im1 z, bnd_some]
    dsimp only
    rw [if_neg nm1, n2, bnd_some]
    dsimp only
    rw [if_neg (nI_n1 (by omega)), a2, bnd_some]
    rfl
  · obtain ⟨hS', hM', a1, a2, a3, a4, a5⟩ := bad ⟨i, i1, n1⟩
    unfold f_Reader_seesNewName at a1
    have s6 : nm ≤ 8 := by have := r.1; omega
    refine .inr ⟨hS', hM', a1, fun cont => ?_, a3, a4, a5⟩
    rw [im1 z, bnd_some]
    dsimp only
    rw [if_neg nm1, n2, bnd_some]
    dsimp only
    rw [if_pos rfl, n3, bnd_some]
    dsimp only
    rw [if_neg (nI_n1 (by omega)), a2, bnd_some]
    rfl
theorem eNAdd {N S : Nat} (hS : S < 14) (a1 a2 a3 a4 : Int32) {h : MH} (e : gI h 11 4 = nI S) : f_Names_add N a1 a2 a3 a4 h = some (sI (sI (sI (sI (sI h 12 S a1) 13 S a2) 14 S a3) 15 S a4) 11 4 (nI (S + 1))) := by
  have ib : inB (nI S) 14 = true := by rw [inB_nI (by omega)]; exact hS
  unfold f_Names_add
  dsimp only
  have e1 : gI (sI h 12 S a1) 11 4 = nI S := e
  have e2 : gI (sI (sI h 12 S a1) 13 S a2) 11 4 = nI S := e
  have e3 : gI (sI (sI (sI h 12 S a1) 13 S a2) 14 S a3) 11 4 = nI S := e
  have e4 : gI (sI (sI (sI (sI h 12 S a1) 13 S a2) 14 S a3) 15 S a4) 11 4 = nI S := e
  rw [e, show (14 : Int32) = nI 14 from rfl, if_neg (by rw [nN_le (by omega) (by omega)]; omega), if_pos ib, iN_nI (by omega), e1, if_pos ib, iN_nI (by omega), e2, if_pos ib, iN_nI (by omega), e3, if_pos ib, iN_nI (by omega), e4, show nI S + 1 = nI (S + 1) from nN_add S 1]
def updN (f : Nat → Nat) (k v : Nat) : Nat → Nat := fun i => if i = k then v else f i
theorem updN_eq {f : Nat → Nat} {k v : Nat} : updN f k v k = v := if_pos rfl
theorem updN_ne {f : Nat → Nat} {k v i : Nat} (h : i ≠ k) : updN f k v i = f i := if_neg h
theorem NV_upd {B : Nat → Nat} {ST SP : Nat → Nat} {S a b i : Nat} (h : i ≠ S) : NV B (updN ST S a) (updN SP S b) i = NV B ST SP i := by
  unfold NV; rw [updN_ne h, updN_ne h]
theorem NV_new {B : Nat → Nat} {ST SP : Nat → Nat} {S a b : Nat} : NV B (updN ST S a) (updN SP S b) S = nvf B a (b - a) := by
  unfold NV; rw [updN_eq, updN_eq]
/-- the names with one more: what both kinds share -/
theorem NRi_add {n : Nat} {B : Nat → Nat} {hS hS' : MH} {S a b : Nat} {ST SP : Nat → Nat} (h : ∀ i, i < S → NRi n B hS ST SP i) (e12 : ∀ k, gI hS' 12 k = if k = S then nI a else gI hS 12 k) (e13 : ∀ k, gI hS' 13 k = if k = S then nI b else gI hS 13 k) (hab : a < b ∧ b ≤ n ∧ b ≤ a + 8 ∧ ∀ j, a ≤ j → j < b → 97 ≤ B j ∧ B j < 128) : ∀ i, i < S + 1 → NRi n B hS' (updN ST S a) (updN SP S b) i := by
  intro i hi
  unfold NRi
  rw [e12, e13]
  by_cases z : i = S
  · rw [if_pos z, if_pos z, z, updN_eq, updN_eq]
    exact ⟨rfl, rfl, hab.1, hab.2.1, hab.2.2.1, hab.2.2.2⟩
  · rw [if_neg z, if_neg z, updN_ne z, updN_ne z]
    exact h i (by omega)
theorem NRu_add {B : Nat → Nat} {S a b : Nat} {ST SP : Nat → Nat} (h : ∀ i j, i < S → j < S → NV B ST SP i = NV B ST SP j → i = j) (hv : ∀ i, i < S → NV B ST SP i ≠ nvf B a (b - a)) : ∀ i j, i < S + 1 → j < S + 1 → NV B (updN ST S a) (updN SP S b) i = NV B (updN ST S a) (updN SP S b) j → i = j := by
  intro i j hi hj e
  by_cases zi : i = S
  · by_cases zj : j = S
    · omega
    · rw [zi, NV_new, NV_upd zj] at e
      exact absurd e.symm (hv j (by omega))
  · by_cases zj : j = S
    · rw [zj, NV_new, NV_upd zi] at e
      exact absurd e (hv i (by omega))
    · rw [NV_upd zi, NV_upd zj] at e
      exact h i j (by omega) (by omega) e
theorem NR_mark {n : Nat} {B : Nat → Nat} {hS hM hS' hM' : MH} {S ns nm nc a b : Nat} {ST SP : Nat → Nat} (r : NR n B hS hM S ns nm nc ST SP) (n8 : nm < 8) (hab : a < b ∧ b ≤ n ∧ b ≤ a + 8 ∧ ∀ j, a ≤ j → j < b → 97 ≤ B j ∧ B j < 128) (hv : ∀ i, i < S → NV B ST SP i ≠ nvf B a (b - a)) (e11 : gI hS' 11 4 = nI (S + 1)) (e12 : ∀ k, gI hS' 12 k = if k = S then nI a else gI hS 12 k) (e13 : ∀ k, gI hS' 13 k = if k = S then nI b else gI hS 13 k) (e14 : ∀ k, gI hS' 14 k = if k = S then nI nm else gI hS 14 k) (e15 : ∀ k, gI hS' 15 k = if k = S then 0 else gI hS 15 k) (f28 : gI hM' 68 28 = gI hM 68 28) (f30 : gI hM' 68 30 = nI (nm + 1)) (f74 : ∀ k, gJ hM' 74 k = gJ hM 74 k) (f75 : ∀ k, gJ hM' 75 k = if k = nm then nJ (nvf B a (b - a)) else gJ hM 75 k) (f76 : ∀ k, gI hM' 76 k = gI hM 76 k) (f77 : ∀ k, gI hM' 77 k = gI hM 77 k) : NR n B hS' hM' (S + 1) ns (nm + 1) nc (updN ST S a) (updN SP S b) := by
  obtain ⟨⟨r1, r2, r3, r4, r5, r6, r7⟩, ri, rk, rs, rm, ru, rc⟩ := r
  have olds : ∀ i s, i < S → NRs B hS hM ST SP i s → NRs B hS' hM' (updN ST S a) (updN SP S b) i s := fun i s hi q => by
    unfold NRs
    rw [e14, e15, f74, f76, f77, if_neg (by omega), if_neg (by omega), NV_upd (by omega)]; exact q
  have oldm : ∀ i s, i < S → s < nm → NRm B hS hM ST SP i s → NRm B hS' hM' (updN ST S a) (updN SP S b) i s := fun i s hi hs q => by
    unfold NRm
    rw [e14, e15, f75, if_neg (by omega), if_neg (by omega), if_neg (by omega), NV_upd (by omega)]; exact q
  have newm : NRm B hS' hM' (updN ST S a) (updN SP S b) S nm := by
    unfold NRm
    rw [e14, e15, f75, if_pos rfl, if_pos rfl, if_pos rfl, NV_new]; exact ⟨rfl, rfl, rfl⟩
  refine ⟨⟨e11, by omega, by rw [f28]; exact r3, f30, r5, r6, by omega⟩, NRi_add ri e12 e13 hab, fun i hi => ?_, fun s hs => ?_, fun q hq => ?_, NRu_add ru hv, fun s hs => ?_⟩
  · by_cases z : i = S
    · subst z; exact .inr ⟨nm, by omega, newm⟩
    · rcases rk i (by omega) with ⟨s, s1, s2⟩ | ⟨q, q1, q2⟩
      · exact .inl ⟨s, s1, olds i s (by omega) s2⟩
      · exact .inr ⟨q, by omega, oldm i q (by omega) q1 q2⟩
  · obtain ⟨i, i1, i2⟩ := rs s hs
    exact ⟨i, by omega, olds i s i1 i2⟩
  · by_cases z : q = nm
    · subst z; exact ⟨S, by omega, newm⟩
    · obtain ⟨i, i1, i2⟩ := rm q (by omega)
      exact ⟨i, by omega, oldm i q i1 (by omega) i2⟩
  · rw [f76, f77]; exact rc s hs
theorem tok_ab {n : Nat} {B : Nat → Nat} {t : Nat × Nat × Nat × Nat} (hB : ∀ k, k < n → B k < 256) (g : TG B n t) (z : nmd B t) : t.2.1 < t.2.2.1 ∧ t.2.2.1 ≤ n ∧ t.2.2.1 ≤ t.2.1 + 8 ∧ ∀ j, t.2.1 ≤ j → j < t.2.2.1 → 97 ≤ B j ∧ B j < 128 := by
  obtain ⟨-, nc⟩ := nv_lt hB g z
  have p : t.1 ≠ 1 := by rw [z.1]; decide
  refine ⟨g.2.2.2.1 p (by rw [z.1]; decide), (g.2.2.1 p).2, z.2.1, fun j h1 h2 => ?_⟩
  have := nc (j - t.2.1) (by omega)
  rw [show t.2.1 + (j - t.2.1) = j by omega] at this
  exact this
theorem markB {N n : Nat} (hN : 3000 < N) {B : Nat → Nat} {hS hM : MH} {t : Nat × Nat × Nat × Nat} {D nc nm : Nat} (l : LV n B hS hM t) (ht : t.1 = 2) (pr : PR n B hS hM D nc nm) : PO n B D hS hM (f_Reader_readMark N hS) (f_M_mark N hM) (fun a b => ∃ t' nc' nm', LV n B a b t' ∧ isg t' 59 ∧ t.2.1 < t'.2.1 ∧ PR n B a b D nc' nm') := by
  have n6 := l.1.1
  have ne : ¬ (1 : Int32) = 0 := by decide
  have lt0 := l.2.2.1.2.2.2.1 (by rw [ht]; decide) (by rw [ht]; decide)
  obtain ⟨hS1, hM1, t1, b1, b2, b3, b4, b5, b6, b7⟩ := advB (N := N) (by omega) l (by rw [ht]; decide)
  have pr1 := PR_fr pr b4 (b5.mono (fun _ _ => wN_R))
  obtain ⟨dc, du, dn, ds, S, ns, ST, SP, r⟩ := id pr1
  obtain ⟨hD, d39, ⟨nc6, nm8⟩, ⟨d0, d29⟩, ⟨d1, d30⟩⟩ := id dc
  have fS1 := b4.mono (fun _ _ => wTk_D (D := D))
  have fM1 := b5.mono (fun _ _ => wN_D)
  unfold f_Reader_readMark
  rw [b1, bnd_some]
  have ref : f_M_mark N hM = NP N hM1 (fun v h => if (gI h 68 30) = 8 then
      ((f_M_fails N 6 h).bind (fun x6 =>
      match narOK 1 x6.1 with
      | true => some (x6.1, x6.2)
      | false => none))
      else
      ((f_M_next N h).bind (fun x7 =>
      (f_M_wantEnd N x7).bind (fun x8 =>
      if x8.1 = 0 then
      (some (0, x8.2))
      else
      (if inB (gI x8.2 68 30) 8 = true then
      (let h9 : MH := sJ x8.2 75 (iN (gI x8.2 68 30)) v
      let h10 : MH := sI h9 68 30 ((gI h9 68 30) + 1)
      some (1, h10))
      else none))))) := by
    unfold f_M_mark
    rw [b2, bnd_some]
    rfl
  rw [ref]
  dsimp only
  rcases newB (N := N) hN b3 r with ⟨z, c1, c2, c3⟩ | ⟨hS2, hM2, c1, c2, c3, c4, c5⟩
  case inr =>
    rw [c1, c2, bnd_some]
    exact ⟨hS2, hM2, fS1.trans (c4.mono (fun _ _ => wTk_D (D := D))), fM1.trans (c5.mono (fun _ _ => wF_D)), .inr ⟨rfl, rfl, c3⟩⟩
  have p1 : t1.1 ≠ 1 := by rw [z.1]; decide
  have ab := tok_ab (fun k hk => (b3.1.2.2 k hk).1) b3.2.2.1 z
  rw [c1, c2, bnd_some]
  dsimp only
  rw [if_neg ne, d39, d1, d30]
  by_cases q8 : nm = 8
  · obtain ⟨hS', hM', a1, a2, a3, a4, a5⟩ := failB (N := N) b3 (a := 6) (by omega) (by omega)
    have a1' : f_Reader_fail N 6 (gI hS1 3 4) hS1 = _ := a1
    have a2' : f_M_fails N 6 hM1 = _ := a2
    rw [if_neg (by rw [q8]; decide), if_pos (by rw [q8]; rfl), a1', a2', bnd_some, bnd_some]
    exact ⟨hS', hM', fS1.trans (a4.mono (fun _ _ => wTk_D (D := D))), fM1.trans (a5.mono (fun _ _ => wF_D)), .inr ⟨rfl, rfl, a3⟩⟩
  obtain ⟨hS2, hM2, t2, e1, e2, e3, e4, e5, e6, e7⟩ := advB (N := N) (by omega) b3 p1
  have fS2 := fS1.trans (e4.mono (fun _ _ => wTk_D (D := D)))
  have fM2 := fM1.trans (e5.mono (fun _ _ => wN_D))
  have pr2 := PR_fr pr1 e4 (e5.mono (fun _ _ => wN_R))
  rw [show (8 : Int32) = nI 8 from rfl, if_pos (by rw [nN_lt (by omega) (by omega)]; omega), if_neg (by rw [nN_inj (by omega) (by omega)]; exact q8), e1, e2, bnd_some, bnd_some]
  obtain ⟨hS3, hM3, w1, w2, w3⟩ := endB (N := N) e3
  rcases w3 with ⟨v1, v2, v3, v4, v5⟩ | ⟨v1, v2, v3⟩
  case inr =>
    rw [v1, v2, bnd_some, bnd_some]
    exact ⟨hS3, hM3, fS2.trans (w1.mono (fun _ _ => wTk_D (D := D))), fM2.trans (w2.mono (fun _ _ => wF_D)), .inr ⟨rfl, rfl, v3⟩⟩
  subst v3 v4
  obtain ⟨dc2, du2, dn2, ds2, -⟩ := id pr2
  have r2 : NR n B hS3 hM3 S ns nm nc ST SP := NR_eq r (e4.i 11 4 rfl) (fun k => e4.i 12 k rfl) (fun k => e4.i 13 k rfl) (fun k => e4.i 14 k rfl) (fun k => e4.i 15 k rfl) (e5.i 68 28 rfl) (e5.i 68 30 rfl) (fun k => e5.j 74 k rfl) (fun k => e5.j 75 k rfl) (fun k => e5.i 76 k rfl) (fun k => e5.i 77 k rfl)
  obtain ⟨-, d39', -, ⟨d0', d29'⟩, ⟨d1', d30'⟩⟩ := id dc2
  have S14 : S < 14 := by have := r2.1; omega
  rw [v1, v2, bnd_some, bnd_some]
  dsimp only
  rw [if_neg ne, if_neg ne, d39', d1', d30', if_pos (by rw [inB_nI (by omega)]; omega), iN_nI (by omega), eNAdd S14 _ _ _ _ r2.1.1, bnd_some]
  have c34 : gI hS1 3 4 = nI t1.2.1 := b3.2.2.2.1.2.1
  have c35 : gI hS1 3 5 = nI t1.2.2.1 := b3.2.2.2.1.2.2.1 p1
  have g9 : gR (sI (sI (sI (sI (sI hS3 12 S (gI hS1 3 4)) 13 S (gI hS1 3 5)) 14 S (nI nm)) 15 S 0) 11 4 (nI (S + 1))) 3 9 = D := d39'
  have g1 : gI (sI (sI (sI (sI (sI hS3 12 S (gI hS1 3 4)) 13 S (gI hS1 3 5)) 14 S (nI nm)) 15 S 0) 11 4 (nI (S + 1))) D 1 = nI nm := by
    rw [← d1']
    rcases hD with rfl | rfl <;> rfl
  have g30 : gI (sJ hM3 75 nm (nJ (nv B t1))) 68 30 = nI nm := d30'
  rw [g9, g1, g30, show nI nm + 1 = nI (nm + 1) from nN_add nm 1]
  have fX : Fr (fun c k => (c == 3 && (11 ≤ k && k ≤ 12)) || (11 ≤ c && c ≤ 15) || (D ≤ c && c ≤ D + 5)) hS3 (sI (sI (sI (sI (sI (sI hS3 12 S (gI hS1 3 4)) 13 S (gI hS1 3 5)) 14 S (nI nm)) 15 S 0) 11 4 (nI (S + 1))) D 1 (nI (nm + 1))) := (((((Fr.rfl.sI 12 S _ rfl).sI 13 S _ rfl).sI 14 S _ rfl).sI 15 S _ rfl).sI 11 4 _ rfl).sI D 1 _ (by simp)
  have fY : Fr (fun c k => (c == 68 && (28 ≤ k && k ≤ 30)) || (74 ≤ c && c ≤ 84)) hM3 (sI (sJ hM3 75 nm (nJ (nv B t1))) 68 30 (nI (nm + 1))) := (Fr.rfl.sJ 75 nm _ rfl).sI 68 30 _ rfl
  refine ⟨_, _, fS2.trans (fX.mono (fun c k h => ?_)), fM2.trans (fY.mono (fun c k h => ?_)), .inl ⟨rfl, rfl, t2, nc, nm + 1, LV_D hD e3 fX fY, v5, by omega, ?_, ?_, ?_, ?_, S + 1, ns, updN ST S t1.2.1, updN SP S t1.2.2.1, ?_⟩⟩
  · unfold wDS at h; simp at h ⊢; omega
  · unfold wDM at h; simp at h ⊢; omega
  · refine ⟨hD, d39', ⟨nc6, by omega⟩, ⟨?_, d29'⟩, ⟨?_, rfl⟩⟩
    · rw [← d0']
      rcases hD with rfl | rfl <;> rfl
    · rw [gI_sI, if_pos ⟨rfl, rfl⟩]
  · refine DU_eq du2 (fun k => ?_) rfl (fun k => rfl) (fun k => rfl)
    rcases hD with rfl | rfl <;> rfl
  · refine DN_eq dn2 (fun k => ?_) (fun k => rfl)
    rcases hD with rfl | rfl <;> rfl
  · refine DS_eq ds2 (fun k => ?_) (fun k => ?_) (fun k => ?_) (by rcases hD with rfl | rfl <;> rfl) (fun k => rfl) (fun k => rfl) (fun k => rfl) (fun k => rfl)
    · rcases hD with rfl | rfl <;> rfl
    · rcases hD with rfl | rfl <;> rfl
    · rcases hD with rfl | rfl <;> rfl
  · have up : ∀ c k, 11 ≤ c → c ≤ 15 → gI (sI (sI (sI (sI (sI (sI hS3 12 S (gI hS1 3 4)) 13 S (gI hS1 3 5)) 14 S (nI nm)) 15 S 0) 11 4 (nI (S + 1))) D 1 (nI (nm + 1))) c k = gI (sI (sI (sI (sI (sI hS3 12 S (gI hS1 3 4)) 13 S (gI hS1 3 5)) 14 S (nI nm)) 15 S 0) 11 4 (nI (S + 1))) c k := fun c k h1 h2 => by rw [gI_sI, if_neg (by omega)]
    refine NR_mark r2 (by omega) ab c3 (by rw [up _ _ (by omega) (by omega)]; rfl) (fun k => ?_) (fun k => ?_) (fun k => ?_) (fun k => ?_) rfl rfl (fun k => rfl) (fun k => ?_) (fun k => rfl) (fun k => rfl)
    · rw [up _ _ (by omega) (by omega)]
      show gI (sI hS3 12 S (gI hS1 3 4)) 12 k = _
      rw [gI_sI, c34]
      by_cases w : k = S
      · rw [if_pos ⟨rfl, w⟩, if_pos w]
      · rw [if_neg (by omega), if_neg w]
    · rw [up _ _ (by omega) (by omega)]
      show gI (sI (sI hS3 12 S (gI hS1 3 4)) 13 S (gI hS1 3 5)) 13 k = _
      rw [gI_sI, c35]
      by_cases w : k = S
      · rw [if_pos ⟨rfl, w⟩, if_pos w]
      · rw [if_neg (by omega), if_neg w]; rfl
    · rw [up _ _ (by omega) (by omega)]
      show gI (sI (sI (sI hS3 12 S (gI hS1 3 4)) 13 S (gI hS1 3 5)) 14 S (nI nm)) 14 k = _
      rw [gI_sI]
      by_cases w : k = S
      · rw [if_pos ⟨rfl, w⟩, if_pos w]
      · rw [if_neg (by omega), if_neg w]; rfl
    · rw [up _ _ (by omega) (by omega)]
      show gI (sI (sI (sI (sI hS3 12 S (gI hS1 3 4)) 13 S (gI hS1 3 5)) 14 S (nI nm)) 15 S 0) 15 k = _
      rw [gI_sI]
      by_cases w : k = S
      · rw [if_pos ⟨rfl, w⟩, if_pos w]
      · rw [if_neg (by omega), if_neg w]; rfl
    · show gJ (sJ hM3 75 nm (nJ (nv B t1))) 75 k = _
      rw [gJ_sJ]
      by_cases w : k = nm
      · rw [if_pos ⟨rfl, w⟩, if_pos w]; rfl
      · rw [if_neg (by omega), if_neg w]
