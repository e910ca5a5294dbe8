/-! LAND: the class's advance as a whole -/
theorem tok_st {B : Nat → Nat} {n p : Nat} : (tok B n p).2.1 = rn blk B n p := by
  unfold tok
  split
  · rfl
  split
  · rfl
  split
  · split <;> rfl
  split <;> rfl
def FA (h h' : MH) (t : Nat × Nat × Nat × Nat) : Prop := (t.1 = 1 ∧ gI h 3 7 = 0 → gI h' 3 7 = 1 ∧ gI h' 3 8 = nI t.2.1) ∧ (¬ (t.1 = 1 ∧ gI h 3 7 = 0) → gI h' 3 7 = gI h 3 7 ∧ gI h' 3 8 = gI h 3 8)
theorem FA_no {h h' : MH} {t : Nat × Nat × Nat × Nat} (ht : t.1 ≠ 1) (e7 : gI h' 3 7 = gI h 3 7) (e8 : gI h' 3 8 = gI h 3 8) : FA h h' t := ⟨fun q => absurd q.1 ht, fun _ => ⟨e7, e8⟩⟩
theorem eFail {N : Nat} (a b : Int32) (h : MH) : f_Reader_fail N a b h = some (0, if gI h 3 7 = 0 then sI (sI h 3 7 a) 3 8 b else h) := by
  unfold f_Reader_fail
  by_cases z : gI h 3 7 = 0
  · rw [if_pos z, if_pos z]
  · rw [if_neg z, if_neg z]
theorem eAdv {N n : Nat} {B : Nat → Nat} {p : Nat} (hN : 2000 < N) {h : MH} (x : CX n B h) (e5 : gI h 3 5 = nI p) (hp : p ≤ n) : ∃ h', f_Reader_advance N h = some h' ∧ Fr wTk h h' ∧ CK h' (tok B n p) ∧ FA h h' (tok B n p) := by
  have n6 := x.1
  obtain ⟨f', h2, s1, s2, s3, s4⟩ := lSkip (N := N) (n := n) (B := B) (n - p) p (N + 1) (sI h 3 4 (nI p)) (by omega) (by omega) (CX_fr x ((Fr.rfl (W := w34)).sI 3 4 _ rfl) rfl (fun _ => rfl)) rfl
  have fr2 : Fr w34 h h2 := ((Fr.rfl (W := w34)).sI 3 4 _ rfl).trans s3
  have x2 := CX_fr x fr2 rfl (fun _ => rfl)
  have s2' : F_Reader_advance_8 N (L_Reader_advance N N) (sI h 3 4 (nI p)) = F_Reader_advance_60 N (L_Reader_advance N f') h2 := s2
  have frT : Fr wTk h h2 := fr2.mono (fun c k q => by unfold wTk at q; unfold w34; simp at q ⊢; omega)
  have rb := rn_all (q := blk) (B := B) (n := n) (n - p) p (by omega)
  unfold f_Reader_advance F_Reader_advance_0
  dsimp only
  rw [e5, s2']
  unfold F_Reader_advance_60
  dsimp only
  have q1 : gI (sI h2 3 5 (gI h2 3 4)) 3 4 = nI (rn blk B n p) := s4
  have q2 : gI (sI h2 3 5 (gI h2 3 4)) 3 2 = nI n := x2.2.1
  have frT4 : Fr wTk h (sI h2 3 5 (gI h2 3 4)) := frT.sI 3 5 _ rfl
  rw [q1, q2]
  by_cases c0 : n ≤ rn blk B n p
  · rw [if_neg (by rw [nN_lt (by omega) (by omega)]; omega)]
    have et : tok B n p = (0, rn blk B n p, rn blk B n p, 0) := by unfold tok; rw [if_pos c0]
    rw [et]
    exact ⟨_, rfl, frT4.sI 3 3 _ rfl, ⟨rfl, s4, fun _ => s4, fun q => absurd q (by show ¬ (0 : Nat) = 3; omega)⟩, FA_no (by show ¬ (0 : Nat) = 1; omega) (fr2.i 3 7 rfl) (fr2.i 3 8 rfl)⟩
  have hst : rn blk B n p < n := by omega
  obtain ⟨b1, b2⟩ := x2.2.2 (rn blk B n p) hst
  have ib : inB (nI (rn blk B n p)) 600 = true := by rw [inB_nI (by omega)]; omega
  have q3 : gI (sI h2 3 5 (gI h2 3 4)) 4 (rn blk B n p) = sB (B (rn blk B n p)) := b2
  rw [if_pos (by rw [nN_lt (by omega) (by omega)]; omega), if_pos ib, iN_nI (by omega), q3, eLet b1, bnd_some]
  dsimp only
  by_cases c1 : ltr (B (rn blk B n p)) = true
  · rw [if_pos c1, if_neg (by decide)]
    have et : tok B n p = (2, rn blk B n p, rn ltr B n (rn blk B n p), 0) := by unfold tok; rw [if_neg c0, if_pos c1]
    obtain ⟨h', a1, a2, a3⟩ := lWord (N := N) (n := n) (B := B) (n - rn blk B n p) (rn blk B n p) (f' + 1) (sI (sI h2 3 5 (gI h2 3 4)) 3 3 1) (by omega) (by omega) (CX_fr x2 (((Fr.rfl (W := wTk)).sI 3 5 _ rfl).sI 3 3 _ rfl) rfl (fun _ => rfl)) s4
    have a1' : F_Reader_advance_107 N (L_Reader_advance N f') (sI (sI h2 3 5 (gI h2 3 4)) 3 3 1) = some h' := a1
    rw [a1', et]
    refine ⟨h', rfl, (frT4.sI 3 3 _ rfl).trans (a2.mono (fun c k q => by unfold wTk at q; unfold w35; simp at q ⊢; omega)), ⟨by rw [a2.i 3 3 rfl]; rfl, by rw [a2.i 3 4 rfl]; exact s4, fun _ => a3, fun q => absurd q (by show ¬ (2 : Nat) = 3; omega)⟩, FA_no (by show ¬ (2 : Nat) = 1; omega) (by rw [a2.i 3 7 rfl]; exact fr2.i 3 7 rfl) (by rw [a2.i 3 8 rfl]; exact fr2.i 3 8 rfl)⟩
  rw [if_neg c1, if_pos rfl, q1, if_pos ib, iN_nI (by omega), q3, eDig b1, bnd_some]
  dsimp only
  by_cases c2 : dgt (B (rn blk B n p)) = true
  · rw [if_pos c2, if_neg (by decide)]
    unfold f_Reader_scanNumber F_Reader_scanNumber_0
    dsimp only
    have fr6 : Fr wTk h (sI (sI (sI h2 3 5 (gI h2 3 4)) 3 3 2) 3 6 0) := (frT4.sI 3 3 _ rfl).sI 3 6 _ rfl
    obtain ⟨f2, h', a1, a2, a3, a4⟩ := lNum (N := N) (n := n) (B := B) (st := rn blk B n p) (n - rn blk B n p) (rn blk B n p) (N + 1) (sI (sI (sI h2 3 5 (gI h2 3 4)) 3 3 2) 3 6 0) (by omega) (by omega) (fun j h1 h2 => by omega) (by omega) (CX_fr x fr6 rfl (fun _ => rfl)) s4 s4 (fun _ => by rw [Nat.sub_self]; rfl)
    have a1' : F_Reader_scanNumber_10 N (L_Reader_scanNumber N N) (sI (sI (sI h2 3 5 (gI h2 3 4)) 3 3 2) 3 6 0) = _ := a1
    rw [a1']
    unfold F_Reader_scanNumber_86
    have rd := rn_all (q := dgt) (B := B) (n := n) (n - rn blk B n p) (rn blk B n p) (by omega)
    have e4 : gI h' 3 4 = nI (rn blk B n p) := by rw [a2.i 3 4 rfl]; exact s4
    have fr7 : Fr wTk h h' := fr6.trans (a2.mono (fun c k q => by unfold wTk at q; unfold w356; simp at q ⊢; omega))
    have e7 : gI h' 3 7 = gI h 3 7 := by rw [a2.i 3 7 rfl]; exact fr2.i 3 7 rfl
    have e8 : gI h' 3 8 = gI h 3 8 := by rw [a2.i 3 8 rfl]; exact fr2.i 3 8 rfl
    rw [a3, e4, nN_sub (by omega), show (4 : Int32) = nI 4 from rfl]
    by_cases c3 : rn dgt B n (rn blk B n p) ≤ rn blk B n p + 4
    · rw [if_pos (by rw [nN_le (by omega) (by omega)]; omega), bnd_some]
      have et : tok B n p = (3, rn blk B n p, rn dgt B n (rn blk B n p), vl B (rn blk B n p) (rn dgt B n (rn blk B n p) - rn blk B n p)) := by unfold tok; rw [if_neg c0, if_neg c1, if_pos c2, if_pos c3]
      rw [et]
      exact ⟨h', rfl, fr7, ⟨by rw [a2.i 3 3 rfl]; rfl, e4, fun _ => a3, fun _ => a4 c3⟩, FA_no (by show ¬ (3 : Nat) = 1; omega) e7 e8⟩
    · rw [if_neg (by rw [nN_le (by omega) (by omega)]; omega)]
      have et : tok B n p = (1, rn blk B n p, 0, 0) := by unfold tok; rw [if_neg c0, if_neg c1, if_pos c2, if_neg c3]
      rw [et]
      dsimp only
      rw [eFail, bnd_some, bnd_some]
      have f8 : Fr wTk h (sI h' 3 3 (nI 4)) := fr7.sI 3 3 _ rfl
      have e7' : gI (sI h' 3 3 (nI 4)) 3 7 = gI h' 3 7 := rfl
      have e4' : gI (sI h' 3 3 (nI 4)) 3 4 = nI (rn blk B n p) := e4
      dsimp only
      rw [e7', e4', e7]
      by_cases c4 : gI h 3 7 = 0
      · rw [if_pos c4]
        exact ⟨_, rfl, (f8.sI 3 7 _ rfl).sI 3 8 _ rfl, ⟨rfl, e4, fun q => absurd rfl q, fun q => absurd q (by show ¬ (1 : Nat) = 3; omega)⟩, fun _ => ⟨rfl, rfl⟩, fun q => absurd ⟨rfl, c4⟩ q⟩
      · rw [if_neg c4]
        exact ⟨_, rfl, f8, ⟨rfl, e4, fun q => absurd rfl q, fun q => absurd q (by show ¬ (1 : Nat) = 3; omega)⟩, fun q => absurd q.2 c4, fun _ => ⟨e7, e8⟩⟩
  rw [if_neg c2, if_pos rfl, q1, if_pos ib, iN_nI (by omega), q3, eSgn b1, bnd_some]
  dsimp only
  by_cases c3 : sgnB (B (rn blk B n p)) = true
  · rw [if_pos c3, if_neg (by decide)]
    have et : tok B n p = (4, rn blk B n p, rn blk B n p + 1, B (rn blk B n p)) := by unfold tok; rw [if_neg c0, if_neg c1, if_neg c2, if_pos c3]
    rw [et]
    have e5' : gI (sI (sI h2 3 5 (gI h2 3 4)) 3 3 3) 3 5 = nI (rn blk B n p) := s4
    rw [e5', show nI (rn blk B n p) + 1 = nI (rn blk B n p + 1) from nN_add _ 1]
    exact ⟨_, rfl, (frT4.sI 3 3 _ rfl).sI 3 5 _ rfl, ⟨rfl, s4, fun _ => rfl, fun q => absurd q (by show ¬ (4 : Nat) = 3; omega)⟩, FA_no (by show ¬ (4 : Nat) = 1; omega) (fr2.i 3 7 rfl) (fr2.i 3 8 rfl)⟩
  · rw [if_neg c3, if_pos rfl]
    have et : tok B n p = (1, rn blk B n p, 0, 0) := by unfold tok; rw [if_neg c0, if_neg c1, if_neg c2, if_neg c3]
    rw [et, eFail, bnd_some]
    have e4' : gI (sI (sI h2 3 5 (gI h2 3 4)) 3 3 4) 3 4 = nI (rn blk B n p) := s4
    have e7' : gI (sI (sI h2 3 5 (gI h2 3 4)) 3 3 4) 3 7 = gI h 3 7 := fr2.i 3 7 rfl
    dsimp only
    rw [e4', e7']
    by_cases c4 : gI h 3 7 = 0
    · rw [if_pos c4]
      exact ⟨_, rfl, ((frT4.sI 3 3 _ rfl).sI 3 7 _ rfl).sI 3 8 _ rfl, ⟨rfl, s4, fun q => absurd rfl q, fun q => absurd q (by show ¬ (1 : Nat) = 3; omega)⟩, fun _ => ⟨rfl, rfl⟩, fun q => absurd ⟨rfl, c4⟩ q⟩
    · rw [if_neg c4]
      exact ⟨_, rfl, frT4.sI 3 3 _ rfl, ⟨rfl, s4, fun q => absurd rfl q, fun q => absurd q (by show ¬ (1 : Nat) = 3; omega)⟩, fun q => absurd q.2 c4, fun _ => ⟨fr2.i 3 7 rfl, fr2.i 3 8 rfl⟩⟩
