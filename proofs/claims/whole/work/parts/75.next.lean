/-! LAND: the reference's next -/
def MX (n : Nat) (B : Nat → Nat) (h : MH) : Prop := n ≤ 600 ∧ gI h 68 9 = nI n ∧ ∀ k, k < n → B k < 256 ∧ gI h 73 k &&& 255 = nI (B k)
def MK (h : MH) (t : Nat × Nat × Nat × Nat) : Prop := gI h 68 10 = nI t.1 ∧ gI h 68 11 = nI t.2.1 ∧ (t.1 ≠ 1 → gI h 68 12 = nI t.2.2.1) ∧ (t.1 = 3 → gI h 68 13 = nI t.2.2.2) ∧ (t.1 = 4 → gI h 68 13 = nI t.2.2.2)
def wN (c k : Nat) : Bool := c == 68 && (10 ≤ k && k ≤ 13)
theorem MX_fr {n : Nat} {B : Nat → Nat} {h h' : MH} {W : Nat → Nat → Bool} (x : MX n B h) (f : Fr W h h') (w1 : W 68 9 = false) (w2 : ∀ k, W 73 k = false) : MX n B h' := ⟨x.1, by rw [f.i 68 9 w1]; exact x.2.1, fun k hk => ⟨(x.2.2 k hk).1, by rw [f.i 73 k (w2 k)]; exact (x.2.2 k hk).2⟩⟩
def av (n : Nat) (B : Nat → Nat) (p : Nat) : Int32 := if p < n then nI (B p) else -1
theorem eAt {N n : Nat} {B : Nat → Nat} {h : MH} (x : MX n B h) {p : Nat} (hp : p < 10000) : f_M_at N (nI p) h = some (av n B p, h) := by
  have n6 := x.1
  unfold f_M_at av
  rw [x.2.1]
  by_cases z : p < n
  · rw [if_neg (by rw [nN_le (by omega) (by omega)]; omega), if_pos (by rw [inB_nI (by omega)]; omega), if_pos z, iN_nI (by omega), (x.2.2 p z).2]
  · rw [if_pos (by rw [nN_le (by omega) (by omega)]; omega), if_neg z]
theorem let_m : ∀ b : Fin 256, (ltr b = true → ¬ nI b < 97 ∧ ¬ 122 < nI b) ∧ (¬ ltr b = true → nI b < 97 ∨ 122 < nI b) := by decide +kernel
theorem dig_m : ∀ b : Fin 256, (dgt b = true → ¬ nI b < 48 ∧ ¬ 57 < nI b) ∧ (¬ dgt b = true → nI b < 48 ∨ 57 < nI b) := by decide +kernel
theorem sig_m : ∀ b : Fin 256, (sgnB b = true ↔ (nI b = 59 ∨ nI b = 43 ∨ nI b = 45 ∨ nI b = 42 ∨ nI b = 40 ∨ nI b = 41)) := by decide +kernel
theorem blk_m : ∀ b : Fin 256, (blk b = true ↔ (nI b = 10 ∨ nI b = 32)) ∧ nI b ≠ -1 := by decide +kernel
theorem eSmall {N n : Nat} {B : Nat → Nat} {p : Nat} (hb : p < n → B p < 256) (h : MH) : f_M_isSmall N (av n B p) h = some (if p < n ∧ ltr (B p) = true then 1 else 0, h) := by
  unfold f_M_isSmall av
  by_cases y : p < n
  · have d := let_m ⟨B p, hb y⟩
    rw [if_pos y]
    by_cases z : ltr (B p) = true
    · obtain ⟨a, c⟩ := d.1 z
      rw [if_neg a, if_neg c, if_pos ⟨y, z⟩]
    · rw [if_neg (show ¬ (p < n ∧ ltr (B p) = true) from fun q => z q.2)]
      rcases d.2 z with a | a
      · rw [if_pos a]
      · by_cases w : nI (B p) < 97
        · rw [if_pos w]
        · rw [if_neg w, if_pos a]
  · rw [if_neg y, if_pos (by decide), if_neg (show ¬ (p < n ∧ ltr (B p) = true) from fun q => y q.1)]
theorem eDigM {N n : Nat} {B : Nat → Nat} {p : Nat} (hb : p < n → B p < 256) (h : MH) : f_M_isDigit N (av n B p) h = some (if p < n ∧ dgt (B p) = true then 1 else 0, h) := by
  unfold f_M_isDigit av
  by_cases y : p < n
  · have d := dig_m ⟨B p, hb y⟩
    rw [if_pos y]
    by_cases z : dgt (B p) = true
    · obtain ⟨a, c⟩ := d.1 z
      rw [if_neg a, if_neg c, if_pos ⟨y, z⟩]
    · rw [if_neg (show ¬ (p < n ∧ dgt (B p) = true) from fun q => z q.2)]
      rcases d.2 z with a | a
      · rw [if_pos a]
      · by_cases w : nI (B p) < 48
        · rw [if_pos w]
        · rw [if_neg w, if_pos a]
  · rw [if_neg y, if_pos (by decide), if_neg (show ¬ (p < n ∧ dgt (B p) = true) from fun q => y q.1)]
def w12 (c k : Nat) : Bool := c == 68 && k == 12
def w123 (c k : Nat) : Bool := c == 68 && (k == 12 || k == 13)
theorem lSkipM {N n : Nat} {B : Nat → Nat} : ∀ (d p f : Nat) (h : MH), p + d = n → d < f → MX n B h → gI h 68 12 = nI p → ∃ f' h', f ≤ f' + d + 1 ∧ (L_M_next N f).1 h = F_M_next_0 N (L_M_next N f') h' ∧ Fr w12 h h' ∧ gI h' 68 12 = nI (rn blk B n p) := by
  intro d
  induction d with
  | zero =>
    intro p f h hd hf x e
    obtain ⟨f, rfl⟩ : ∃ z, f = z + 1 := ⟨f - 1, by omega⟩
    exact ⟨f, h, by omega, rfl, Fr.rfl, by rw [rn_end (by omega)]; exact e⟩
  | succ d ih =>
    intro p f h hd hf x e
    obtain ⟨f, rfl⟩ : ∃ z, f = z + 1 := ⟨f - 1, by omega⟩
    have n6 := x.1
    have b1 := (x.2.2 p (by omega)).1
    have bd : blk (B p) = true ↔ (nI (B p) = 10 ∨ nI (B p) = 32) := (blk_m ⟨B p, b1⟩).1
    by_cases z : blk (B p) = true
    case neg => exact ⟨f, h, by omega, rfl, Fr.rfl, by rw [rn_stop (by omega) z]; exact e⟩
    have av' : av n B p = nI (B p) := by unfold av; rw [if_pos (by omega)]
    obtain ⟨f', h', a1, a2, a3, a4⟩ := ih (p + 1) f (sI h 68 12 (nI (p + 1))) (by omega) (by omega) (MX_fr x ((Fr.rfl (W := w12)).sI 68 12 _ rfl) rfl (fun _ => rfl)) rfl
    refine ⟨f', h', by omega, ?_, ((Fr.rfl (W := w12)).sI 68 12 _ rfl).trans a3, by rw [rn_go (by omega) z]; exact a4⟩
    rw [← a2]
    show F_M_next_0 N (L_M_next N f) h = _
    unfold F_M_next_0
    rw [e, eAt x (by omega), bnd_some]
    dsimp only
    rw [av', e, show nI p + 1 = nI (p + 1) from nN_add p 1]
    by_cases c2 : nI (B p) = 32
    · rw [if_pos c2]
    · have c1 : nI (B p) = 10 := by rcases bd.mp z with y | y; exact y; exact absurd y c2
      rw [if_neg c2, eAt x (by omega), bnd_some]
      dsimp only
      rw [av', if_pos c1, e, show nI p + 1 = nI (p + 1) from nN_add p 1]
theorem lWordM {N n : Nat} {B : Nat → Nat} : ∀ (d p f : Nat) (h : MH), p + d = n → d < f → MX n B h → gI h 68 12 = nI p → ∃ h', (L_M_next N f).2.1 h = some (sI h' 68 10 2) ∧ Fr w12 h h' ∧ gI h' 68 12 = nI (rn ltr B n p) := by
  intro d
  induction d with
  | zero =>
    intro p f h hd hf x e
    obtain ⟨f, rfl⟩ : ∃ z, f = z + 1 := ⟨f - 1, by omega⟩
    have n6 := x.1
    refine ⟨h, ?_, Fr.rfl, by rw [rn_end (by omega)]; exact e⟩
    show F_M_next_81 N (L_M_next N f) h = _
    unfold F_M_next_81
    rw [e, eAt x (by omega), bnd_some]
    dsimp only
    rw [eSmall (fun q => absurd q (by omega)), bnd_some]
    dsimp only
    rw [if_neg (show ¬ (p < n ∧ ltr (B p) = true) by omega), if_pos rfl]
  | succ d ih =>
    intro p f h hd hf x e
    obtain ⟨f, rfl⟩ : ∃ z, f = z + 1 := ⟨f - 1, by omega⟩
    have n6 := x.1
    show ∃ h', F_M_next_81 N (L_M_next N f) h = _ ∧ _
    unfold F_M_next_81
    rw [e, eAt x (by omega), bnd_some]
    dsimp only
    rw [eSmall (fun q => (x.2.2 p q).1), bnd_some]
    dsimp only
    by_cases z : ltr (B p) = true
    · rw [if_pos (show p < n ∧ ltr (B p) = true from ⟨by omega, z⟩), if_neg (by decide), e, show nI p + 1 = nI (p + 1) from nN_add p 1]
      obtain ⟨h', a2, a3, a4⟩ := ih (p + 1) f (sI h 68 12 (nI (p + 1))) (by omega) (by omega) (MX_fr x ((Fr.rfl (W := w12)).sI 68 12 _ rfl) rfl (fun _ => rfl)) rfl
      exact ⟨h', a2, ((Fr.rfl (W := w12)).sI 68 12 _ rfl).trans a3, by rw [rn_go (by omega) z]; exact a4⟩
    · rw [if_neg (show ¬ (p < n ∧ ltr (B p) = true) from fun q => z q.2), if_pos rfl]
      exact ⟨h, rfl, Fr.rfl, by rw [rn_stop (by omega) z]; exact e⟩
theorem lNumM {N n : Nat} {B : Nat → Nat} {st : Nat} : ∀ (d p f : Nat) (h : MH), p + d = n → st ≤ p → (∀ j, st ≤ j → j < p → dgt (B j) = true) → d < f → MX n B h → gI h 68 11 = nI st → gI h 68 12 = nI p → (p ≤ st + 4 → gI h 68 13 = nI (vl B st (p - st))) → ∃ h', (L_M_next N f).2.2 h = some (sI h' 68 10 (if rn dgt B n p ≤ st + 4 then 3 else 1)) ∧ Fr w123 h h' ∧ gI h' 68 12 = nI (rn dgt B n p) ∧ (rn dgt B n p ≤ st + 4 → gI h' 68 13 = nI (vl B st (rn dgt B n p - st))) := by
  intro d
  induction d with
  | zero =>
    intro p f h hd hst hdg hf x e4 e e6
    obtain ⟨f, rfl⟩ : ∃ z, f = z + 1 := ⟨f - 1, by omega⟩
    have n6 := x.1
    rw [rn_end (show n ≤ p by omega)]
    refine ⟨h, ?_, Fr.rfl, e, e6⟩
    show F_M_next_128 N (L_M_next N f) h = _
    unfold F_M_next_128
    rw [e, eAt x (by omega), bnd_some]
    dsimp only
    rw [eDigM (fun q => absurd q (by omega)), bnd_some]
    dsimp only
    rw [if_neg (show ¬ (p < n ∧ dgt (B p) = true) by omega), if_pos rfl, e, e4, nN_sub hst, show (4 : Int32) = nI 4 from rfl]
    by_cases y : p ≤ st + 4
    · rw [if_pos (by rw [nN_le (by omega) (by omega)]; omega), if_pos y]
    · rw [if_neg (by rw [nN_le (by omega) (by omega)]; omega), if_neg y]
  | succ d ih =>
    intro p f h hd hst hdg hf x e4 e e6
    obtain ⟨f, rfl⟩ : ∃ z, f = z + 1 := ⟨f - 1, by omega⟩
    have n6 := x.1
    have b1 := (x.2.2 p (by omega)).1
    show ∃ h', F_M_next_128 N (L_M_next N f) h = _ ∧ _
    unfold F_M_next_128
    rw [e, eAt x (by omega), bnd_some]
    dsimp only
    rw [eDigM (fun q => (x.2.2 p q).1), bnd_some]
    dsimp only
    by_cases z : dgt (B p) = true
    · have dv : sB (B p) = nI (B p) ∧ 48 ≤ B p ∧ B p ≤ 57 := dig_v ⟨B p, b1⟩ z
      have hdg' : ∀ j, st ≤ j → j < p + 1 → dgt (B j) = true := fun j h1 h2 => by
        by_cases y : j = p
        · rw [y]; exact z
        · exact hdg j h1 (by omega)
      have av' : av n B p = nI (B p) := by unfold av; rw [if_pos (by omega)]
      rw [if_pos (show p < n ∧ dgt (B p) = true from ⟨by omega, z⟩), if_neg (by decide), e, eAt x (by omega), bnd_some]
      dsimp only
      rw [av']
      have goal : ∀ v : Int32, (p + 1 ≤ st + 4 → v = nI (vl B st (p + 1 - st))) → ∃ h', (L_M_next N f).2.2 (sI (sI h 68 13 v) 68 12 (nI (p + 1))) = some (sI h' 68 10 (if rn dgt B n p ≤ st + 4 then 3 else 1)) ∧ Fr w123 h h' ∧ gI h' 68 12 = nI (rn dgt B n p) ∧ (rn dgt B n p ≤ st + 4 → gI h' 68 13 = nI (vl B st (rn dgt B n p - st))) := fun v hv => by
        obtain ⟨h', a2, a3, a4, a5⟩ := ih (p + 1) f (sI (sI h 68 13 v) 68 12 (nI (p + 1))) (by omega) (by omega) hdg' (by omega) (MX_fr x (((Fr.rfl (W := w123)).sI 68 13 _ rfl).sI 68 12 _ rfl) rfl (fun _ => rfl)) e4 rfl hv
        rw [rn_go (show p < n by omega) z]
        exact ⟨h', a2, (((Fr.rfl (W := w123)).sI 68 13 _ rfl).sI 68 12 _ rfl).trans a3, a4, a5⟩
      have val : p + 1 ≤ st + 4 → 10 * gI h 68 13 + nI (B p) - 48 = nI (vl B st (p + 1 - st)) ∧ vl B st (p + 1 - st) < 10000 := fun y => by
        have bd := vl_le (B := B) (st := st) (p + 1 - st) (fun j hj => (dig_v ⟨B (st + j), (x.2.2 (st + j) (by omega)).1⟩ (hdg' (st + j) (by omega) (by omega))).2.2)
        have p10 : 10 ^ (p + 1 - st) ≤ 10 ^ 4 := Nat.pow_le_pow_right (by omega) (by omega)
        refine ⟨?_, by omega⟩
        rw [e6 (by omega), show p + 1 - st = (p - st) + 1 by omega]
        show _ = nI (10 * vl B st (p - st) + (B (st + (p - st)) - 48))
        rw [show st + (p - st) = p by omega, show (10 : Int32) = nI 10 from rfl, show (48 : Int32) = nI 48 from rfl, nN_mul, nN_add, nN_sub (by omega)]
        congr 1
        omega
      unfold f_Math_min_II
      by_cases w : 10 * gI h 68 13 + nI (B p) - 48 < 1000000
      · rw [if_pos w, bnd_some]
        dsimp only
        have e12 : gI (sI h 68 13 (10 * gI h 68 13 + nI (B p) - 48)) 68 12 = nI p := e
        rw [e12, show nI p + 1 = nI (p + 1) from nN_add p 1]
        exact goal _ (fun y => (val y).1)
      · rw [if_neg w, bnd_some]
        dsimp only
        have e12 : gI (sI h 68 13 1000000) 68 12 = nI p := e
        rw [e12, show nI p + 1 = nI (p + 1) from nN_add p 1]
        refine goal _ (fun y => absurd ?_ w)
        obtain ⟨v1, v2⟩ := val y
        rw [v1, show (1000000 : Int32) = nI 1000000 from rfl, nN_lt (by omega) (by omega)]
        omega
    · rw [if_neg (show ¬ (p < n ∧ dgt (B p) = true) from fun q => z q.2), if_pos rfl, e, e4, nN_sub hst, show (4 : Int32) = nI 4 from rfl, rn_stop (show p < n by omega) z]
      refine ⟨h, ?_, Fr.rfl, e, e6⟩
      by_cases y : p ≤ st + 4
      · rw [if_pos (by rw [nN_le (by omega) (by omega)]; omega), if_pos y]
      · rw [if_neg (by rw [nN_le (by omega) (by omega)]; omega), if_neg y]
theorem eNext {N n : Nat} {B : Nat → Nat} {p : Nat} (hN : 2000 < N) {h : MH} (x : MX n B h) (e5 : gI h 68 12 = nI p) (hp : p ≤ n) : ∃ h', f_M_next N h = some h' ∧ Fr wN h h' ∧ MK h' (tok B n p) := by
  have n6 := x.1
  obtain ⟨f', h2, s1, s2, s3, s4⟩ := lSkipM (N := N) (n := n) (B := B) (n - p) p (N + 1) h (by omega) (by omega) x e5
  have x2 := MX_fr x s3 rfl (fun _ => rfl)
  have s2' : F_M_next_0 N (L_M_next N N) h = F_M_next_0 N (L_M_next N f') h2 := s2
  have frN : Fr wN h h2 := s3.mono (fun c k q => by unfold wN at q; unfold w12; simp at q ⊢; omega)
  have rb := rn_all (q := blk) (B := B) (n := n) (n - p) p (by omega)
  unfold f_M_next
  rw [s2']
  unfold F_M_next_0
  rw [s4, eAt x2 (by omega), bnd_some]
  dsimp only
  have nb : ¬ av n B (rn blk B n p) = 32 ∧ ¬ av n B (rn blk B n p) = 10 := by
    unfold av
    by_cases z : rn blk B n p < n
    · rw [if_pos z]
      have bd : blk (B (rn blk B n p)) = true ↔ (nI (B (rn blk B n p)) = 10 ∨ nI (B (rn blk B n p)) = 32) := (blk_m ⟨_, (x2.2.2 _ z).1⟩).1
      exact ⟨fun q => rb.2.2.2 z (bd.mpr (.inr q)), fun q => rb.2.2.2 z (bd.mpr (.inl q))⟩
    · rw [if_neg z]; decide
  rw [if_neg nb.1, s4, eAt x2 (by omega), bnd_some]
  dsimp only
  have x5 : MX n B (sI h2 68 11 (gI h2 68 12)) := MX_fr x2 ((Fr.rfl (W := wN)).sI 68 11 _ rfl) rfl (fun _ => rfl)
  have q1 : gI (sI h2 68 11 (gI h2 68 12)) 68 12 = nI (rn blk B n p) := s4
  rw [if_neg nb.2, q1, eAt x5 (by omega), bnd_some]
  dsimp only
  have frN7 : Fr wN h (sI (sI h2 68 11 (gI h2 68 12)) 68 13 (av n B (rn blk B n p))) := (frN.sI 68 11 _ rfl).sI 68 13 _ rfl
  have x7 := MX_fr x frN7 rfl (fun _ => rfl)
  by_cases c0 : n ≤ rn blk B n p
  · have e : av n B (rn blk B n p) = -1 := by unfold av; rw [if_neg (by omega)]
    have et : tok B n p = (0, rn blk B n p, rn blk B n p, 0) := by unfold tok; rw [if_pos c0]
    rw [if_pos e, et]
    exact ⟨_, rfl, frN7.sI 68 10 _ rfl, rfl, s4, fun _ => s4, fun q => absurd q (by show ¬ (0 : Nat) = 3; omega), fun q => absurd q (by show ¬ (0 : Nat) = 4; omega)⟩
  have hst : rn blk B n p < n := by omega
  have b1 := (x2.2.2 (rn blk B n p) hst).1
  have av' : av n B (rn blk B n p) = nI (B (rn blk B n p)) := by unfold av; rw [if_pos hst]
  have ne : ¬ av n B (rn blk B n p) = -1 := by rw [av']; exact (blk_m ⟨_, b1⟩).2
  rw [if_neg ne, eSmall (fun q => b1), bnd_some]
  dsimp only
  by_cases c1 : ltr (B (rn blk B n p)) = true
  · rw [if_pos (show _ ∧ _ from ⟨hst, c1⟩), if_neg (by decide)]
    have et : tok B n p = (2, rn blk B n p, rn ltr B n (rn blk B n p), 0) := by unfold tok; rw [if_neg c0, if_pos c1]
    obtain ⟨h', a1, a2, a3⟩ := lWordM (N := N) (n := n) (B := B) (n - rn blk B n p) (rn blk B n p) (f' + 1) (sI (sI h2 68 11 (gI h2 68 12)) 68 13 (av n B (rn blk B n p))) (by omega) (by omega) x7 s4
    have a1' : F_M_next_81 N (L_M_next N f') (sI (sI h2 68 11 (gI h2 68 12)) 68 13 (av n B (rn blk B n p))) = _ := a1
    rw [a1', et]
    exact ⟨_, rfl, (frN7.trans (a2.mono (fun c k q => by unfold wN at q; unfold w12; simp at q ⊢; omega))).sI 68 10 _ rfl, rfl, by
      show gI h' 68 11 = _
      rw [a2.i 68 11 rfl]; exact s4, fun _ => a3, fun q => absurd q (by show ¬ (2 : Nat) = 3; omega), fun q => absurd q (by show ¬ (2 : Nat) = 4; omega)⟩
  rw [if_neg (show ¬ (rn blk B n p < n ∧ ltr (B (rn blk B n p)) = true) from fun q => c1 q.2), if_pos rfl, eDigM (fun q => b1), bnd_some]
  dsimp only
  by_cases c2 : dgt (B (rn blk B n p)) = true
  · rw [if_pos (show _ ∧ _ from ⟨hst, c2⟩), if_neg (by decide)]
    obtain ⟨h', a1, a2, a3, a4⟩ := lNumM (N := N) (n := n) (B := B) (st := rn blk B n p) (n - rn blk B n p) (rn blk B n p) (f' + 1) (sI (sI (sI h2 68 11 (gI h2 68 12)) 68 13 (av n B (rn blk B n p))) 68 13 0) (by omega) (by omega) (fun j h1 h2 => by omega) (by omega) (MX_fr x (frN7.sI 68 13 _ rfl) rfl (fun _ => rfl)) s4 s4 (fun _ => by rw [Nat.sub_self]; rfl)
    have a1' : F_M_next_128 N (L_M_next N f') (sI (sI (sI h2 68 11 (gI h2 68 12)) 68 13 (av n B (rn blk B n p))) 68 13 0) = _ := a1
    rw [a1']
    have fr : Fr wN h (sI h' 68 10 (if rn dgt B n (rn blk B n p) ≤ rn blk B n p + 4 then 3 else 1)) := ((frN7.sI 68 13 _ rfl).trans (a2.mono (fun c k q => by unfold wN at q; unfold w123; simp at q ⊢; omega))).sI 68 10 _ rfl
    have e11 : gI h' 68 11 = nI (rn blk B n p) := by rw [a2.i 68 11 rfl]; exact s4
    by_cases c3 : rn dgt B n (rn blk B n p) ≤ rn blk B n p + 4
    · have et : tok B n p = (3, rn blk B n p, rn dgt B n (rn blk B n p), vl B (rn blk B n p) (rn dgt B n (rn blk B n p) - rn blk B n p)) := by unfold tok; rw [if_neg c0, if_neg c1, if_pos c2, if_pos c3]
      rw [et]
      rw [if_pos c3] at fr ⊢
      exact ⟨_, rfl, fr, rfl, e11, fun _ => a3, fun _ => a4 c3, fun q => absurd q (by show ¬ (3 : Nat) = 4; omega)⟩
    · have et : tok B n p = (1, rn blk B n p, 0, 0) := by unfold tok; rw [if_neg c0, if_neg c1, if_pos c2, if_neg c3]
      rw [et]
      rw [if_neg c3] at fr ⊢
      exact ⟨_, rfl, fr, rfl, e11, fun q => absurd rfl q, fun q => absurd q (by show ¬ (1 : Nat) = 3; omega), fun q => absurd q (by show ¬ (1 : Nat) = 4; omega)⟩
  rw [if_neg (show ¬ (rn blk B n p < n ∧ dgt (B (rn blk B n p)) = true) from fun q => c2 q.2), if_pos rfl]
  have sd : sgnB (B (rn blk B n p)) = true ↔ (nI (B (rn blk B n p)) = 59 ∨ nI (B (rn blk B n p)) = 43 ∨ nI (B (rn blk B n p)) = 45 ∨ nI (B (rn blk B n p)) = 42 ∨ nI (B (rn blk B n p)) = 40 ∨ nI (B (rn blk B n p)) = 41) := sig_m ⟨_, b1⟩
  have q12 : gI (sI (sI h2 68 11 (gI h2 68 12)) 68 13 (av n B (rn blk B n p))) 68 12 = nI (rn blk B n p) := s4
  rw [q12, show nI (rn blk B n p) + 1 = nI (rn blk B n p + 1) from nN_add _ 1, av']
  rw [av'] at frN7
  by_cases c3 : sgnB (B (rn blk B n p)) = true
  · have et : tok B n p = (4, rn blk B n p, rn blk B n p + 1, B (rn blk B n p)) := by unfold tok; rw [if_neg c0, if_neg c1, if_neg c2, if_pos c3]
    rw [et]
    have res : ∃ h', some (sI (sI (sI (sI h2 68 11 (gI h2 68 12)) 68 13 (nI (B (rn blk B n p)))) 68 12 (nI (rn blk B n p + 1))) 68 10 4) = some h' ∧ Fr wN h h' ∧ MK h' (4, rn blk B n p, rn blk B n p + 1, B (rn blk B n p)) := ⟨_, rfl, (frN7.sI 68 12 _ rfl).sI 68 10 _ rfl, rfl, s4, fun _ => rfl, fun q => absurd q (by show ¬ (4 : Nat) = 3; omega), fun _ => rfl⟩
    have s := sd.mp c3
    by_cases d1 : nI (B (rn blk B n p)) = 59
    · rw [if_pos d1]; exact res
    rw [if_neg d1]
    by_cases d2 : nI (B (rn blk B n p)) = 43
    · rw [if_pos d2]; exact res
    rw [if_neg d2]
    by_cases d3 : nI (B (rn blk B n p)) = 45
    · rw [if_pos d3]; exact res
    rw [if_neg d3]
    by_cases d4 : nI (B (rn blk B n p)) = 42
    · rw [if_pos d4]; exact res
    rw [if_neg d4]
    by_cases d5 : nI (B (rn blk B n p)) = 40
    · rw [if_pos d5]; exact res
    rw [if_neg d5]
    by_cases d6 : nI (B (rn blk B n p)) = 41
    · rw [if_pos d6]; exact res
    · simp only [d1, d2, d3, d4, d5, d6, or_self] at s
  · have et : tok B n p = (1, rn blk B n p, 0, 0) := by unfold tok; rw [if_neg c0, if_neg c1, if_neg c2, if_neg c3]
    rw [et, if_neg (fun y => c3 (sd.mpr (.inl y))), if_neg (fun y => c3 (sd.mpr (.inr (.inl y)))), if_neg (fun y => c3 (sd.mpr (.inr (.inr (.inl y))))), if_neg (fun y => c3 (sd.mpr (.inr (.inr (.inr (.inl y)))))), if_neg (fun y => c3 (sd.mpr (.inr (.inr (.inr (.inr (.inl y))))))), if_neg (fun y => c3 (sd.mpr (.inr (.inr (.inr (.inr (.inr y)))))))]
    exact ⟨_, rfl, (frN7.sI 68 12 _ rfl).sI 68 10 _ rfl, rfl, s4, fun q => absurd rfl q, fun q => absurd q (by show ¬ (1 : Nat) = 3; omega), fun q => absurd q (by show ¬ (1 : Nat) = 4; omega)⟩
