/-! LAND: both readers at one token -/
def LV (n : Nat) (B : Nat → Nat) (hS hM : MH) (t : Nat × Nat × Nat × Nat) : Prop := CX n B hS ∧ MX n B hM ∧ TG B n t ∧ CK hS t ∧ MK hM t ∧ gI hM 68 16 = 0 ∧ gI hM 68 15 = -1 ∧ (t.1 ≠ 1 → gI hS 3 7 = 0 ∧ gI hS 3 8 = -1) ∧ (t.1 = 1 → gI hS 3 7 = 1 ∧ gI hS 3 8 = nI t.2.1)
/-- both have failed, and alike -/
def DD (n : Nat) (B : Nat → Nat) (hS hM : MH) : Prop := CX n B hS ∧ (∃ t, TG B n t ∧ CK hS t) ∧ (∃ f, 1 ≤ f ∧ f ≤ 9 ∧ gI hS 3 7 = nI f ∧ gI hM 68 16 = nI f) ∧ gI hS 3 8 = gI hM 68 15
def wF (c k : Nat) : Bool := c == 68 && (10 ≤ k && k ≤ 16 && k != 14)
theorem wN_F {c k : Nat} (h : wF c k = false) : wN c k = false := by
  unfold wF at h; unfold wN; simp at h ⊢; omega
theorem LV_fr {n : Nat} {B : Nat → Nat} {hS hM hS' hM' : MH} {t : Nat × Nat × Nat × Nat} {WS WM : Nat → Nat → Bool} (l : LV n B hS hM t) (fS : Fr WS hS hS') (fM : Fr WM hM hM') (a1 : ∀ k, 2 ≤ k → k ≤ 8 → WS 3 k = false) (a2 : ∀ k, WS 4 k = false) (b1 : ∀ k, 9 ≤ k → k ≤ 16 → WM 68 k = false) (b2 : ∀ k, WM 73 k = false) : LV n B hS' hM' t := by
  obtain ⟨x, y, g, c, m, e1, e2, e3, e4⟩ := l
  refine ⟨CX_fr x fS (a1 2 (by omega) (by omega)) a2, MX_fr y fM (b1 9 (by omega) (by omega)) b2, g, ?_, ?_, ?_, ?_, ?_, ?_⟩
  · unfold CK
    rw [fS.i 3 3 (a1 3 (by omega) (by omega)), fS.i 3 4 (a1 4 (by omega) (by omega)), fS.i 3 5 (a1 5 (by omega) (by omega)), fS.i 3 6 (a1 6 (by omega) (by omega))]
    exact c
  · unfold MK
    rw [fM.i 68 10 (b1 10 (by omega) (by omega)), fM.i 68 11 (b1 11 (by omega) (by omega)), fM.i 68 12 (b1 12 (by omega) (by omega)), fM.i 68 13 (b1 13 (by omega) (by omega))]
    exact m
  · rw [fM.i 68 16 (b1 16 (by omega) (by omega))]; exact e1
  · rw [fM.i 68 15 (b1 15 (by omega) (by omega))]; exact e2
  · rw [fS.i 3 7 (a1 7 (by omega) (by omega)), fS.i 3 8 (a1 8 (by omega) (by omega))]; exact e3
  · rw [fS.i 3 7 (a1 7 (by omega) (by omega)), fS.i 3 8 (a1 8 (by omega) (by omega))]; exact e4
theorem advB {N n : Nat} (hN : 2000 < N) {B : Nat → Nat} {hS hM : MH} {t : Nat × Nat × Nat × Nat} (l : LV n B hS hM t) (ht : t.1 ≠ 1) : ∃ hS' hM' t', f_Reader_advance N hS = some hS' ∧ f_M_next N hM = some hM' ∧ LV n B hS' hM' t' ∧ Fr wTk hS hS' ∧ Fr wN hM hM' ∧ t.2.2.1 ≤ t'.2.1 ∧ t' = tok B n t.2.2.1 := by
  obtain ⟨x, y, g, c, m, e1, e2, e3, e4⟩ := l
  obtain ⟨g3, g4⟩ := g.2.2.1 ht
  obtain ⟨hS', a1, a2, a3, a4⟩ := eAdv (N := N) hN x (c.2.2.1 ht) g4
  obtain ⟨hM', b1, b2, b3⟩ := eNext (N := N) hN y (m.2.2.1 ht) g4
  obtain ⟨tg, tp⟩ := tok_good g4 (fun k hk => (x.2.2 k hk).1)
  obtain ⟨f7, f8⟩ := e3 ht
  refine ⟨hS', hM', tok B n t.2.2.1, a1, b1, ⟨CX_fr x a2 rfl (fun _ => rfl), MX_fr y b2 rfl (fun _ => rfl), tg, a3, b3, by rw [b2.i 68 16 rfl]; exact e1, by rw [b2.i 68 15 rfl]; exact e2, fun q => ?_, fun q => a4.1 ⟨q, f7⟩⟩, a2, b2, tp, rfl⟩
  obtain ⟨v1, v2⟩ := a4.2 (fun w => q w.1)
  rw [v1, v2]; exact ⟨f7, f8⟩
theorem eFailsAt {N : Nat} (a b : Int32) {h : MH} (e : gI h 68 16 = 0) : f_M_failsAt N a b h = some (0, sI (sI h 68 16 a) 68 15 b) := by
  unfold f_M_failsAt
  rw [if_pos e]
theorem failB {N n : Nat} {B : Nat → Nat} {hS hM : MH} {t : Nat × Nat × Nat × Nat} (l : LV n B hS hM t) {a : Nat} (h1 : 1 ≤ a) (h9 : a ≤ 9) : ∃ hS' hM', f_Reader_fail N (nI a) (gI hS 3 4) hS = some (0, hS') ∧ f_M_fails N (nI a) hM = some (0, hM') ∧ DD n B hS' hM' ∧ Fr wTk hS hS' ∧ Fr wF hM hM' := by
  obtain ⟨x, y, g, c, m, e1, e2, e3, e4⟩ := l
  have g0 := g.1
  unfold f_M_fails
  rw [eFail, m.1, m.2.1, c.2.1]
  simp only [show (nI t.1 = 1) = (t.1 = 1) by rw [show (1 : Int32) = nI 1 from rfl, nN_inj (by omega) (by omega)]]
  by_cases z : t.1 = 1
  · obtain ⟨v1, v2⟩ := e4 z
    rw [if_pos z, eFailsAt _ _ e1, bnd_some, v1, if_neg (by decide)]
    refine ⟨hS, _, rfl, rfl, ⟨x, ⟨t, g, c⟩, ⟨1, by omega, by omega, v1, rfl⟩, v2⟩, Fr.rfl, (Fr.rfl.sI 68 16 _ rfl).sI 68 15 _ rfl⟩
  · obtain ⟨v1, v2⟩ := e3 z
    have fS : Fr wTk hS (sI (sI hS 3 7 (nI a)) 3 8 (nI t.2.1)) := (Fr.rfl.sI 3 7 _ rfl).sI 3 8 _ rfl
    rw [if_neg z, eFailsAt _ _ e1, bnd_some, if_pos v1]
    exact ⟨_, _, rfl, rfl, ⟨CX_fr x fS rfl (fun _ => rfl), ⟨t, g, c⟩, ⟨a, h1, h9, rfl, rfl⟩, rfl⟩, fS, (Fr.rfl.sI 68 16 _ rfl).sI 68 15 _ rfl⟩
theorem failAtB {N n : Nat} {B : Nat → Nat} {hS hM : MH} {t : Nat × Nat × Nat × Nat} (l : LV n B hS hM t) (ht : t.1 ≠ 1) {a : Nat} (h1 : 1 ≤ a) (h9 : a ≤ 9) (p : Int32) : ∃ hS' hM', f_Reader_fail N (nI a) p hS = some (0, hS') ∧ f_M_failsAt N (nI a) p hM = some (0, hM') ∧ DD n B hS' hM' ∧ Fr wTk hS hS' ∧ Fr wF hM hM' := by
  obtain ⟨x, y, g, c, m, e1, e2, e3, e4⟩ := l
  obtain ⟨v1, v2⟩ := e3 ht
  have fS : Fr wTk hS (sI (sI hS 3 7 (nI a)) 3 8 p) := (Fr.rfl.sI 3 7 _ rfl).sI 3 8 _ rfl
  rw [eFail, eFailsAt _ _ e1, if_pos v1]
  exact ⟨_, _, rfl, rfl, ⟨CX_fr x fS rfl (fun _ => rfl), ⟨t, g, c⟩, ⟨a, h1, h9, rfl, rfl⟩, rfl⟩, fS, (Fr.rfl.sI 68 16 _ rfl).sI 68 15 _ rfl⟩
/-- what both sides do with a token: both go on, or both have failed -/
def RS (n : Nat) (B : Nat → Nat) (hS hM : MH) (s m : Option (Int32 × MH)) (P : MH → MH → Prop) : Prop := ∃ hS' hM', Fr wTk hS hS' ∧ Fr wF hM hM' ∧ ((s = some (1, hS') ∧ m = some (1, hM') ∧ P hS' hM') ∨ (s = some (0, hS') ∧ m = some (0, hM') ∧ DD n B hS' hM'))
theorem wordB {N n : Nat} (hN : 2000 < N) {B : Nat → Nat} {hS hM : MH} {t : Nat × Nat × Nat × Nat} (l : LV n B hS hM t) {j : Nat} (hj : j < 9) : RS n B hS hM (f_Reader_passWord N (kO j) hS) (f_M_wantKey N (nI j) hM) (fun a b => LV n B a b (tok B n t.2.2.1) ∧ t.2.2.1 ≤ (tok B n t.2.2.1).2.1 ∧ t.2.1 < t.2.2.1) := by
  obtain ⟨x, y, g, c, m, -⟩ := id l
  have kq : kO j < 9 := (key_d ⟨j, hj⟩).1
  unfold f_Reader_passWord f_M_wantKey
  rw [eKey hN y g m, bnd_some]
  dsimp only
  by_cases z : isw B t (kO j)
  · obtain ⟨hS', hM', t', a1, a2, a3, a4, a5, a6, a7⟩ := advB (N := N) hN l (by rw [z.1]; decide)
    subst a7
    rw [wdS_y (by omega) x g c (by omega) z, bnd_some]
    dsimp only
    rw [if_neg (by decide), if_pos (ky_is hj z), a1, a2, bnd_some, bnd_some]
    exact ⟨hS', hM', a4, a5.mono (fun _ _ => wN_F), .inl ⟨rfl, rfl, a3, a6, g.2.2.2.1 (by rw [z.1]; decide) (by rw [z.1]; decide)⟩⟩
  · obtain ⟨hS', hM', a1, a2, a3, a4, a5⟩ := failB (N := N) l (a := 2) (by omega) (by omega)
    have a1' : f_Reader_fail N 2 (gI hS 3 4) hS = _ := a1
    have a2' : f_M_fails N 2 hM = _ := a2
    rw [wdS_n (by omega) x g c (by omega) z, bnd_some]
    dsimp only
    rw [if_pos rfl, if_neg (fun w => z ((ky_iff hj).mp w)), a1', a2', bnd_some, bnd_some]
    exact ⟨hS', hM', a4, a5, .inr ⟨rfl, rfl, a3⟩⟩
theorem endB {N n : Nat} {B : Nat → Nat} {hS hM : MH} {t : Nat × Nat × Nat × Nat} (l : LV n B hS hM t) : RS n B hS hM (f_Reader_seesEnd N hS) (f_M_wantEnd N hM) (fun a b => a = hS ∧ b = hM ∧ isg t 59) := by
  obtain ⟨x, y, g, c, m, -⟩ := id l
  unfold f_Reader_seesEnd f_M_wantEnd
  by_cases z : isg t 59
  · rw [show (59 : Int32) = nI 59 from rfl, sgS_y x g c (by omega) z, sgM_y y g m (by omega) z, bnd_some, bnd_some]
    exact ⟨hS, hM, Fr.rfl, Fr.rfl, .inl ⟨rfl, rfl, rfl, rfl, z⟩⟩
  · obtain ⟨hS', hM', a1, a2, a3, a4, a5⟩ := failB (N := N) l (a := 2) (by omega) (by omega)
    have a1' : f_Reader_fail N 2 (gI hS 3 4) hS = _ := a1
    have a2' : f_M_fails N 2 hM = _ := a2
    rw [show (59 : Int32) = nI 59 from rfl, sgS_n x g c (by omega) z, sgM_n y g m (by omega) z, bnd_some, bnd_some]
    dsimp only
    rw [if_pos rfl, if_pos rfl, a1', a2', bnd_some, bnd_some]
    exact ⟨hS', hM', a4, a5, .inr ⟨rfl, rfl, a3⟩⟩
/-- a number: the class sees it, and passes it later; the reference passes it at once -/
theorem numB {N n : Nat} (hN : 2000 < N) {B : Nat → Nat} {hS hM : MH} {t : Nat × Nat × Nat × Nat} (l : LV n B hS hM t) {a b : Nat} (ha : a < 2000000000) (hb : b < 2000000000) : (∃ hS' hM', t.1 = 3 ∧ a ≤ t.2.2.2 ∧ t.2.2.2 ≤ b ∧ gI hS 3 6 = nI t.2.2.2 ∧ f_Reader_seesNumber N (nI a) (nI b) hS = some (1, hS) ∧ f_Reader_advance N hS = some hS' ∧ f_M_number N (nI a) (nI b) hM = some (1, hM') ∧ gI hM' 68 39 = nI t.2.2.2 ∧ LV n B hS' hM' (tok B n t.2.2.1) ∧ t.2.2.1 ≤ (tok B n t.2.2.1).2.1 ∧ t.2.1 < t.2.2.1 ∧ Fr wTk hS hS' ∧ Fr (fun c k => wF c k || (c == 68 && k == 39)) hM hM') ∨ (∃ hS' hM', ¬ (t.1 = 3 ∧ a ≤ t.2.2.2 ∧ t.2.2.2 ≤ b) ∧ f_Reader_seesNumber N (nI a) (nI b) hS = some (0, hS') ∧ f_M_number N (nI a) (nI b) hM = some (0, hM') ∧ DD n B hS' hM' ∧ Fr wTk hS hS' ∧ Fr wF hM hM') := by
  obtain ⟨x, y, g, c, m, -⟩ := id l
  have g0 := g.1
  unfold f_Reader_seesNumber f_M_number
  rw [c.1, m.1]
  simp only [show (nI (kc t.1) = 2) = (t.1 = 3) by rw [show (2 : Int32) = nI (kc 3) from rfl, kc_eq g0 3 (by omega)], show (nI t.1 = 3) = (t.1 = 3) by rw [show (3 : Int32) = nI 3 from rfl, nN_inj (by omega) (by omega)]]
  by_cases z : t.1 = 3
  · have v9 := g.2.2.2.2.2.1 z
    rw [if_pos z, if_pos z, c.2.2.2 z, m.2.2.2.1 z, eS_isWithin, bnd_some]
    dsimp only
    simp only [nN_lt (show t.2.2.2 < 2147483648 by omega) (show a < 2147483648 by omega), nN_le (show a < 2147483648 by omega) (show t.2.2.2 < 2147483648 by omega), nN_le (show t.2.2.2 < 2147483648 by omega) (show b < 2147483648 by omega)]
    by_cases w : a ≤ t.2.2.2 ∧ t.2.2.2 ≤ b
    · have l2 : LV n B hS (sI hM 68 39 (nI t.2.2.2)) t := LV_fr l (Fr.rfl (W := fun _ _ => false)) ((Fr.rfl (W := fun c k => c == 68 && k == 39)).sI 68 39 _ rfl) (fun _ _ _ => rfl) (fun _ => rfl) (fun k h1 h2 => by simp; omega) (fun _ => rfl)
      obtain ⟨hS', hM', t', a1, a2, a3, a4, a5, a6, a7⟩ := advB (N := N) hN l2 (by rw [z]; decide)
      subst a7
      rw [if_pos w, if_neg (by decide), if_neg (by omega), if_pos w.2, a2, bnd_some]
      refine .inl ⟨hS', hM', z, w.1, w.2, trivial, rfl, a1, rfl, by rw [a5.i 68 39 rfl]; rfl, a3, a6, g.2.2.2.1 (by rw [z]; decide) (by rw [z]; decide), a4, ?_⟩
      exact ((Fr.rfl (W := fun c k => wF c k || (c == 68 && k == 39))).sI 68 39 _ rfl).trans (a5.mono (fun p q h => wN_F (by simp at h; exact h.1)))
    · obtain ⟨hS', hM', a1, a2, a3, a4, a5⟩ := failB (N := N) l (a := 4) (by omega) (by omega)
      have a1' : f_Reader_fail N 4 (gI hS 3 4) hS = _ := a1
      have a2' : f_M_fails N 4 hM = _ := a2
      rw [if_neg w, if_pos rfl, a1', a2', bnd_some, bnd_some]
      refine .inr ⟨hS', hM', fun q => w ⟨q.2.1, q.2.2⟩, rfl, ?_, a3, a4, a5⟩
      by_cases v : t.2.2.2 < a
      · rw [if_pos v]; rfl
      · rw [if_neg v, if_neg (by omega)]; rfl
  · obtain ⟨hS', hM', a1, a2, a3, a4, a5⟩ := failB (N := N) l (a := 2) (by omega) (by omega)
    have a1' : f_Reader_fail N 2 (gI hS 3 4) hS = _ := a1
    have a2' : f_M_fails N 2 hM = _ := a2
    rw [if_neg z, if_neg z, a1', a2', bnd_some, bnd_some]
    exact .inr ⟨hS', hM', fun q => z q.1, rfl, rfl, a3, a4, a5⟩
