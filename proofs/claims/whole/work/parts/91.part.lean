/-! LAND: a part, and all parts -/
def wDP (c k : Nat) : Bool := wDM c k || (c == 68 && k == 31)
theorem wDM_P {c k : Nat} (h : wDP c k = false) : wDM c k = false := by
  unfold wDP at h; simp at h; exact h.1
theorem tok_bad {B : Nat → Nat} {n p : Nat} (h : (tok B n p).1 = 1) : (tok B n p).2.1 < n := by
  rw [tok_st]
  refine Nat.lt_of_not_le (fun c0 => ?_)
  have et : tok B n p = (0, rn blk B n p, rn blk B n p, 0) := by unfold tok; rw [if_pos c0]
  rw [et] at h
  exact absurd h (by show ¬ (0 : Nat) = 1; omega)
def QP (N n : Nat) (B : Nat → Nat) (D : Nat) (hS hM : MH) (t : Nat × Nat × Nat × Nat) (s m : Option (Int32 × MH)) : Prop := (∃ hS1 hS2 hM2 t2 nc' nm', s = some (1, hS1) ∧ f_Reader_advance N hS1 = some hS2 ∧ m = some (1, hM2) ∧ LV n B hS2 hM2 t2 ∧ t.2.1 < t2.2.1 ∧ (t2.1 = 1 → t2.2.1 < n) ∧ PR n B hS2 hM2 D nc' nm' ∧ gI hM2 68 31 = gI hM 68 31 + 1 ∧ Fr (wDS D) hS hS2 ∧ Fr wDP hM hM2) ∨ (∃ hS' hM', s = some (0, hS') ∧ m = some (0, hM') ∧ DD n B hS' hM' ∧ Fr (wDS D) hS hS' ∧ Fr wDP hM hM')
theorem PR_31 {n : Nat} {B : Nat → Nat} {hS hM : MH} {D nc nm : Nat} (h : PR n B hS hM D nc nm) (v : Int32) : PR n B hS (sI hM 68 31 v) D nc nm := by
  obtain ⟨c, u, w, s, S, ns, ST, SP, r⟩ := h
  exact ⟨DC_eq c rfl rfl rfl rfl rfl, DU_eq u (fun _ => rfl) rfl (fun _ => rfl) (fun _ => rfl), DN_eq w (fun _ => rfl) (fun _ => rfl), DS_eq s (fun _ => rfl) (fun _ => rfl) (fun _ => rfl) rfl (fun _ => rfl) (fun _ => rfl) (fun _ => rfl) (fun _ => rfl), S, ns, ST, SP, NR_eq r rfl (fun _ => rfl) (fun _ => rfl) (fun _ => rfl) (fun _ => rfl) rfl rfl (fun _ => rfl) (fun _ => rfl) (fun _ => rfl) (fun _ => rfl)⟩
theorem finP {N n : Nat} (hN : 3000 < N) {B : Nat → Nat} {D : Nat} {hS hM : MH} {t : Nat × Nat × Nat × Nat} {s m : Option (Int32 × MH)} (po : PO n B D hS hM s m (fun a b => ∃ t' nc' nm', LV n B a b t' ∧ isg t' 59 ∧ t.2.1 < t'.2.1 ∧ PR n B a b D nc' nm')) : QP N n B D hS hM t (s.bind (fun x =>
    match narOK 1 x.1 with
    | true => some (x.1, x.2)
    | false => none)) (m.bind (fun x => F_M_part_72 N x.1 x.2)) := by
  obtain ⟨hS', hM', f1, f2, w⟩ := po
  rcases w with ⟨rfl, rfl, t', nc', nm', l, e, lt, pr⟩ | ⟨rfl, rfl, dd⟩
  · have p : t'.1 ≠ 1 := by rw [e.1]; decide
    have lt' := l.2.2.1.2.2.2.1 p (by rw [e.1]; decide)
    obtain ⟨hS2, hM2, t2, b1, b2, b3, b4, b5, b6, b7⟩ := advB (N := N) (by omega) l p
    have f3 : Fr (fun c k => c == 68 && k == 31) hM2 (sI hM2 68 31 (gI hM2 68 31 + 1)) := Fr.rfl.sI 68 31 _ rfl
    left
    refine ⟨hS', hS2, sI hM2 68 31 (gI hM2 68 31 + 1), t2, nc', nm', rfl, b1, ?_, LV_fr b3 (Fr.rfl (W := fun _ _ => false)) f3 (fun _ _ _ => rfl) (fun _ => rfl) (fun k h1 h2 => by simp; omega) (fun _ => rfl), by omega, by rw [b7]; exact tok_bad, PR_31 (PR_fr pr b4 (b5.mono (fun _ _ => wN_R))) _, ?_, f1.trans (b4.mono (fun _ _ => wTk_D (D := D))), ((f2.mono (fun _ _ => wDM_P)).trans (b5.mono (fun _ _ h => wN_D (wDM_P h)))).sI 68 31 _ rfl⟩
    · rw [bnd_some]
      unfold F_M_part_72
      dsimp only
      rw [if_neg (by decide), b2, bnd_some]
    · show gI hM2 68 31 + 1 = _
      rw [b5.i 68 31 rfl, f2.i 68 31 rfl]
  · right
    refine ⟨hS', hM', rfl, ?_, dd, f1, f2.mono (fun _ _ => wDM_P)⟩
    rw [bnd_some]
    unfold F_M_part_72
    rfl
theorem partB {N n : Nat} (hN : 3000 < N) {B : Nat → Nat} {hS hM : MH} {t : Nat × Nat × Nat × Nat} {D nc nm : Nat} (l : LV n B hS hM t) (pr : PR n B hS hM D nc nm) : QP N n B D hS hM t (f_Reader_readPart N hS) (f_M_part N hM) := by
  obtain ⟨x, y, g, k, m, -⟩ := id l
  have no : ∀ q, q < 10 → ¬ isw B t q → f_Reader_isWord N q hS = some (0, hS) := fun q hq z => wdS_n (by omega) x g k hq z
  have yes : ∀ q, q < 10 → isw B t q → f_Reader_isWord N q hS = some (1, hS) := fun q hq z => wdS_y (by omega) x g k hq z
  have key := eKey (N := N) (by omega) y g m
  by_cases w0 : isw B t (kO 0)
  · have cls : f_Reader_readPart N hS = (f_Reader_readSheet N hS).bind (fun x =>
        match narOK 1 x.1 with
        | true => some (x.1, x.2)
        | false => none) := by
      unfold f_Reader_readPart
      dsimp only
      rw [yes 0 (by omega) w0, bnd_some, if_neg (one_ne hS)]
      rfl
    have ref : f_M_part N hM = (f_M_sheet N hM).bind (fun x => F_M_part_72 N x.1 x.2) := by
      unfold f_M_part
      rw [key, bnd_some]
      dsimp only
      rw [ky_is (j := 0) (by omega) w0, if_neg (show ¬ nI 0 = -1 by decide), if_pos (show nI 0 ≤ 4 by decide), if_pos (show nI 0 = 0 by decide)]
    rw [cls, ref]
    exact finP hN (sheetB hN l w0.1 pr)
  by_cases w1 : isw B t (kO 1)
  · have cls : f_Reader_readPart N hS = (f_Reader_readMark N hS).bind (fun x =>
        match narOK 1 x.1 with
        | true => some (x.1, x.2)
        | false => none) := by
      unfold f_Reader_readPart
      dsimp only
      rw [no 0 (by omega) w0, bnd_some, if_pos (zer_eq hS), yes 3 (by omega) w1, bnd_some, if_neg (one_ne hS)]
      rfl
    have ref : f_M_part N hM = (f_M_mark N hM).bind (fun x => F_M_part_72 N x.1 x.2) := by
      unfold f_M_part
      rw [key, bnd_some]
      dsimp only
      rw [ky_is (j := 1) (by omega) w1, if_neg (show ¬ nI 1 = -1 by decide), if_pos (show nI 1 ≤ 4 by decide), if_neg (show ¬ nI 1 = 0 by decide), if_pos (show nI 1 = 1 by decide)]
    rw [cls, ref]
    exact finP hN (markB hN l w1.1 pr)
  by_cases w2 : isw B t (kO 2)
  · have cls : f_Reader_readPart N hS = (f_Reader_readNear N (nI t.2.1) hS).bind (fun x =>
        match narOK 1 x.1 with
        | true => some (x.1, x.2)
        | false => none) := by
      unfold f_Reader_readPart
      dsimp only
      rw [no 0 (by omega) w0, bnd_some, if_pos (zer_eq hS), no 3 (by omega) w1, bnd_some, if_pos (zer_eq hS), yes 4 (by omega) w2, bnd_some, if_neg (one_ne hS), k.2.1]
      rfl
    have ref : f_M_part N hM = (f_M_near N hM).bind (fun x => F_M_part_72 N x.1 x.2) := by
      unfold f_M_part
      rw [key, bnd_some]
      dsimp only
      rw [ky_is (j := 2) (by omega) w2, if_neg (show ¬ nI 2 = -1 by decide), if_pos (show nI 2 ≤ 4 by decide), if_neg (show ¬ nI 2 = 0 by decide), if_neg (show ¬ nI 2 = 1 by decide), if_pos (show nI 2 = 2 by decide)]
    rw [cls, ref]
    exact finP hN (nearB hN l w2.1 pr)
  by_cases w3 : isw B t (kO 3)
  · have cls : f_Reader_readPart N hS = (f_Reader_readMoves N (nI t.2.1) hS).bind (fun x =>
        match narOK 1 x.1 with
        | true => some (x.1, x.2)
        | false => none) := by
      unfold f_Reader_readPart
      dsimp only
      rw [no 0 (by omega) w0, bnd_some, if_pos (zer_eq hS), no 3 (by omega) w1, bnd_some, if_pos (zer_eq hS), no 4 (by omega) w2, bnd_some, if_pos (zer_eq hS), yes 5 (by omega) w3, bnd_some, if_neg (one_ne hS), k.2.1]
      rfl
    have ref : f_M_part N hM = (f_M_moving N hM).bind (fun x => F_M_part_72 N x.1 x.2) := by
      unfold f_M_part
      rw [key, bnd_some]
      dsimp only
      rw [ky_is (j := 3) (by omega) w3, if_neg (show ¬ nI 3 = -1 by decide), if_pos (show nI 3 ≤ 4 by decide), if_neg (show ¬ nI 3 = 0 by decide), if_neg (show ¬ nI 3 = 1 by decide), if_neg (show ¬ nI 3 = 2 by decide), if_pos (show nI 3 = 3 by decide)]
    rw [cls, ref]
    exact finP hN (movesB hN l w3.1 pr)
  by_cases w4 : isw B t (kO 4)
  · have cls : f_Reader_readPart N hS = (f_Reader_readStuck N (nI t.2.1) hS).bind (fun x =>
        match narOK 1 x.1 with
        | true => some (x.1, x.2)
        | false => none) := by
      unfold f_Reader_readPart
      dsimp only
      rw [no 0 (by omega) w0, bnd_some, if_pos (zer_eq hS), no 3 (by omega) w1, bnd_some, if_pos (zer_eq hS), no 4 (by omega) w2, bnd_some, if_pos (zer_eq hS), no 5 (by omega) w3, bnd_some, if_pos (zer_eq hS), yes 6 (by omega) w4, bnd_some, if_neg (one_ne hS), k.2.1]
      rfl
    have ref : f_M_part N hM = (f_M_stuck N hM).bind (fun x => F_M_part_72 N x.1 x.2) := by
      unfold f_M_part
      rw [key, bnd_some]
      dsimp only
      rw [ky_is (j := 4) (by omega) w4, if_neg (show ¬ nI 4 = -1 by decide), if_pos (show nI 4 ≤ 4 by decide), if_neg (show ¬ nI 4 = 0 by decide), if_neg (show ¬ nI 4 = 1 by decide), if_neg (show ¬ nI 4 = 2 by decide), if_neg (show ¬ nI 4 = 3 by decide)]
    rw [cls, ref]
    exact finP hN (stuckB hN l w4.1 pr)
  obtain ⟨hS', hM', f1, f2, f3, f4, f5⟩ := failB (N := N) l (a := 2) (by omega) (by omega)
  have f1' : f_Reader_fail N 2 (gI hS 3 4) hS = _ := f1
  have f2' : f_M_fails N 2 hM = _ := f2
  have cls : f_Reader_readPart N hS = some (0, hS') := by
    unfold f_Reader_readPart
    dsimp only
    rw [no 0 (by omega) w0, bnd_some, if_pos (zer_eq hS), no 3 (by omega) w1, bnd_some, if_pos (zer_eq hS), no 4 (by omega) w2, bnd_some, if_pos (zer_eq hS), no 5 (by omega) w3, bnd_some, if_pos (zer_eq hS), no 6 (by omega) w4, bnd_some, if_pos (zer_eq hS), f1', bnd_some]
    rfl
  right
  refine ⟨hS', hM', cls, ?_, f3, f4.mono (fun _ _ => wTk_D (D := D)), f5.mono (fun _ _ h => wF_D (wDM_P h))⟩
  unfold f_M_part
  rw [key, bnd_some]
  dsimp only
  by_cases z : ky B t = -1
  · rw [if_pos z, f2', bnd_some]; rfl
  have hi : ∃ j, j < 9 ∧ isw B t (kO j) := Classical.byContradiction (fun w => z (ky_no (fun j hj q => w ⟨j, hj, q⟩)))
  obtain ⟨j, hj, q⟩ := hi
  have j5 : 5 ≤ j := by
    rcases Nat.lt_or_ge j 5 with v | v
    · have : j = 0 ∨ j = 1 ∨ j = 2 ∨ j = 3 ∨ j = 4 := by omega
      rcases this with rfl | rfl | rfl | rfl | rfl
      · exact absurd q w0
      · exact absurd q w1
      · exact absurd q w2
      · exact absurd q w3
      · exact absurd q w4
    · exact v
  have z4 : ¬ ky B t ≤ 4 := by
    rw [ky_is hj q, show (4 : Int32) = nI 4 from rfl, nN_le (by omega) (by omega)]; omega
  rw [if_neg z, if_neg z4, f2', bnd_some]
  rfl
/-- all parts -/
theorem lParts {N n : Nat} (hN : 3000 < N) {B : Nat → Nat} {D : Nat} : ∀ (e i c f : Nat) (hS hM : MH) (t : Nat × Nat × Nat × Nat) (nc nm : Nat), e + t.2.1 = n → i ≤ t.2.1 → (t.1 = 1 → t.2.1 < n) → e < c → e + 1 < f → LV n B hS hM t → PR n B hS hM D nc nm → gI hM 68 31 = nI i →
    ∃ i' hS' hM' f', i' ≤ 600 ∧ L_Reader_readParts N c (nI i) hS = some (nI i', hS') ∧ (L_M_land N f).2.2.2.1 (if t.1 = 0 then 0 else 1) hM = F_M_land_154 N (L_M_land N f') 0 hM' ∧ f ≤ f' + e + 2 ∧ Fr (wDS D) hS hS' ∧ Fr wDP hM hM' ∧ ((∃ nc' nm', gI hS' 3 7 = 0 ∧ gI hS' 3 8 = -1 ∧ gI hM' 68 16 = 0 ∧ gI hM' 68 15 = -1 ∧ PR n B hS' hM' D nc' nm' ∧ gI hM' 68 31 = nI i') ∨ DD n B hS' hM') := by
  intro e
  induction e using Nat.strongRecOn with
  | _ e ih =>
    intro i c f hS hM t nc nm he hi hb hc hf l pr e31
    obtain ⟨c, rfl⟩ : ∃ z, c = z + 1 := ⟨c - 1, by omega⟩
    obtain ⟨f, rfl⟩ : ∃ z, f = z + 1 := ⟨f - 1, by omega⟩
    obtain ⟨x, y, g, k, m, e1, e2, e3, e4⟩ := id l
    have n6 := x.1
    have g0 := g.1
    have k0 : (gI hS 3 3 = 0) = (t.1 = 0) := by rw [k.1, show (0 : Int32) = nI (kc 0) from rfl, kc_eq g0 0 (by omega)]
    by_cases z : t.1 = 0
    · refine ⟨i, hS, hM, f, by omega, ?_, by rw [if_pos z]; rfl, by omega, Fr.rfl, Fr.rfl, .inl ⟨nc, nm, (e3 (by omega)).1, (e3 (by omega)).2, e1, e2, pr, e31⟩⟩
      show F_Reader_readParts_55 N _ (nI i) hS = _
      unfold F_Reader_readParts_55
      by_cases w : (600 : Int32) ≤ nI i
      · rw [if_pos w]
      · rw [if_neg w, if_pos (by rw [k0]; exact z)]
    have st : t.2.1 < n := by
      by_cases q : t.1 = 1
      · exact hb q
      · have := g.2.2.2.1 q z
        have := (g.2.2.1 q).2
        omega
    rw [if_neg z]
    have hcls : L_Reader_readParts N (c + 1) (nI i) hS = ((f_Reader_readPart N hS).bind (fun x11 =>
        if x11.1 = 0 then
        (some (nI i, x11.2))
        else
        (let v12 : Int32 := nI i + 1
        (f_Reader_advance N x11.2).bind (fun x13 =>
        L_Reader_readParts N c v12 x13)))) := by
      show F_Reader_readParts_55 N _ (nI i) hS = _
      unfold F_Reader_readParts_55
      rw [show (600 : Int32) = nI 600 from rfl, if_neg (by rw [nN_le (by omega) (by omega)]; omega), if_neg (by rw [k0]; exact z)]
    have href : (L_M_land N (f + 1)).2.2.2.1 1 hM = ((f_M_part N hM).bind (fun x24 =>
        if x24.1 = 0 then
        ((L_M_land N f).2.2.2.1 0 x24.2)
        else
        (if (gI x24.2 68 10) = 0 then
        ((L_M_land N f).2.2.2.1 0 x24.2)
        else
        ((L_M_land N f).2.2.2.1 1 x24.2)))) := by
      show F_M_land_154 N (L_M_land N f) 1 hM = _
      unfold F_M_land_154
      rw [if_neg (by decide)]
    rw [hcls, href]
    obtain ⟨f, rfl⟩ : ∃ z, f = z + 1 := ⟨f - 1, by omega⟩
    rcases partB (N := N) hN l pr with ⟨hS1, hS2, hM2, t2, nc', nm', q1, q2, q3, q4, q5, q5', q6, q7, q8, q9⟩ | ⟨hS', hM', q1, q2, q3, q4, q5⟩
    · have t2n := q4.2.2.1.2.1
      have m20 : (gI hM2 68 10 = 0) = (t2.1 = 0) := by
        have g20 := q4.2.2.1.1
        rw [q4.2.2.2.2.1.1, show (0 : Int32) = nI 0 from rfl, nN_inj (by omega) (by omega)]
      obtain ⟨i', hS3, hM3, f', r0, r1, r2, r3, r4, r5, r6⟩ := ih (n - t2.2.1) (by omega) (i + 1) c (f + 1) hS2 hM2 t2 nc' nm' (by omega) (by omega) q5' (by omega) (by omega) q4 q6 (by rw [q7, e31]; exact nN_add i 1)
      refine ⟨i', hS3, hM3, f', r0, ?_, ?_, by omega, q8.trans r4, q9.trans r5, r6⟩
      · rw [q1, bnd_some]
        dsimp only
        rw [if_neg (by decide), q2, bnd_some, show nI i + 1 = nI (i + 1) from nN_add i 1]
        exact r1
      · rw [q3, bnd_some]
        dsimp only
        rw [if_neg (by decide)]
        by_cases w : t2.1 = 0
        · rw [if_pos w] at r2
          rw [if_pos (by rw [m20]; exact w)]
          exact r2
        · rw [if_neg w] at r2
          rw [if_neg (by rw [m20]; exact w)]
          exact r2
    · refine ⟨i, hS', hM', f, by omega, ?_, ?_, by omega, q4, q5, .inr q3⟩
      · rw [q1, bnd_some]
        dsimp only
        rw [if_pos rfl]
      · rw [q2, bnd_some]
        dsimp only
        rw [if_pos rfl]
        rfl
