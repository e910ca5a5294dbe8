/-! LAND: tokens, and the class's advance -/
def rnd (q : Nat → Bool) (B : Nat → Nat) : Nat → Nat → Nat
  | 0, p => p
  | d + 1, p => if q (B p) = true then rnd q B d (p + 1) else p
def rn (q : Nat → Bool) (B : Nat → Nat) (n p : Nat) : Nat := rnd q B (n - p) p
theorem rn_end {q : Nat → Bool} {B : Nat → Nat} {n p : Nat} (h : n ≤ p) : rn q B n p = p := by
  unfold rn; rw [show n - p = 0 by omega]; rfl
theorem rn_go {q : Nat → Bool} {B : Nat → Nat} {n p : Nat} (h : p < n) (hq : q (B p) = true) : rn q B n p = rn q B n (p + 1) := by
  unfold rn
  rw [show n - p = (n - (p + 1)) + 1 by omega]
  show (if q (B p) = true then _ else _) = _
  rw [if_pos hq]
theorem rn_stop {q : Nat → Bool} {B : Nat → Nat} {n p : Nat} (h : p < n) (hq : ¬ q (B p) = true) : rn q B n p = p := by
  unfold rn
  rw [show n - p = (n - (p + 1)) + 1 by omega]
  show (if q (B p) = true then _ else _) = _
  rw [if_neg hq]
theorem rn_all {q : Nat → Bool} {B : Nat → Nat} {n : Nat} : ∀ (d p : Nat), p + d = n → p ≤ rn q B n p ∧ rn q B n p ≤ n ∧ (∀ k, p ≤ k → k < rn q B n p → q (B k) = true) ∧ (rn q B n p < n → ¬ q (B (rn q B n p)) = true)
  | 0, p, h => by
    rw [rn_end (by omega)]
    exact ⟨by omega, by omega, fun k h1 h2 => by omega, fun h1 => by omega⟩
  | d + 1, p, h => by
    by_cases z : q (B p) = true
    · rw [rn_go (by omega) z]
      obtain ⟨a, b, c, e⟩ := rn_all (n := n) d (p + 1) (by omega) (q := q) (B := B)
      refine ⟨by omega, b, fun k h1 h2 => ?_, e⟩
      by_cases y : k = p
      · rw [y]; exact z
      · exact c k (by omega) h2
    · rw [rn_stop (by omega) z]
      exact ⟨by omega, by omega, fun k h1 h2 => by omega, fun _ => z⟩
def blk (b : Nat) : Bool := b == 10 || b == 32
def ltr (b : Nat) : Bool := 97 ≤ b && b ≤ 122
def dgt (b : Nat) : Bool := 48 ≤ b && b ≤ 57
def sgnB (b : Nat) : Bool := b == 59 || b == 43 || b == 45 || b == 42 || b == 40 || b == 41
def vl (B : Nat → Nat) (st : Nat) : Nat → Nat
  | 0 => 0
  | k + 1 => 10 * vl B st k + (B (st + k) - 48)
/-- what a token is: kind (0 end, 1 none, 2 word, 3 number, 4 sign), where it begins, where it ends, its value -/
def tok (B : Nat → Nat) (n p : Nat) : Nat × Nat × Nat × Nat :=
  if n ≤ rn blk B n p then (0, rn blk B n p, rn blk B n p, 0)
  else if ltr (B (rn blk B n p)) = true then (2, rn blk B n p, rn ltr B n (rn blk B n p), 0)
  else if dgt (B (rn blk B n p)) = true then (if rn dgt B n (rn blk B n p) ≤ rn blk B n p + 4 then (3, rn blk B n p, rn dgt B n (rn blk B n p), vl B (rn blk B n p) (rn dgt B n (rn blk B n p) - rn blk B n p)) else (1, rn blk B n p, 0, 0))
  else if sgnB (B (rn blk B n p)) = true then (4, rn blk B n p, rn blk B n p + 1, B (rn blk B n p)) else (1, rn blk B n p, 0, 0)
def kc (k : Nat) : Nat := if k = 0 then 0 else if k = 1 then 4 else k - 1
def sB (b : Nat) : Int32 := if b < 128 then nI b else nI b - 256
def CX (n : Nat) (B : Nat → Nat) (h : MH) : Prop := n ≤ 600 ∧ gI h 3 2 = nI n ∧ ∀ k, k < n → B k < 256 ∧ gI h 4 k = sB (B k)
def CK (h : MH) (t : Nat × Nat × Nat × Nat) : Prop := gI h 3 3 = nI (kc t.1) ∧ gI h 3 4 = nI t.2.1 ∧ (t.1 ≠ 1 → gI h 3 5 = nI t.2.2.1) ∧ (t.1 = 3 → gI h 3 6 = nI t.2.2.2)
def wTk (c k : Nat) : Bool := c == 3 && (3 ≤ k && k ≤ 8)
theorem CX_fr {n : Nat} {B : Nat → Nat} {h h' : MH} {W : Nat → Nat → Bool} (x : CX n B h) (f : Fr W h h') (w1 : W 3 2 = false) (w2 : ∀ k, W 4 k = false) : CX n B h' := ⟨x.1, by rw [f.i 3 2 w1]; exact x.2.1, fun k hk => ⟨(x.2.2 k hk).1, by rw [f.i 4 k (w2 k)]; exact (x.2.2 k hk).2⟩⟩
theorem let_d : ∀ b : Fin 256, (ltr b = true → ¬ sB b < 97 ∧ ¬ 122 < sB b) ∧ (¬ ltr b = true → sB b < 97 ∨ 122 < sB b) := by decide +kernel
theorem dig_d : ∀ b : Fin 256, (dgt b = true → ¬ sB b < 48 ∧ ¬ 57 < sB b) ∧ (¬ dgt b = true → sB b < 48 ∨ 57 < sB b) := by decide +kernel
theorem sig_d : ∀ b : Fin 256, (sgnB b = true ↔ (sB b = 59 ∨ sB b = 43 ∨ sB b = 45 ∨ sB b = 42 ∨ sB b = 40 ∨ sB b = 41)) := by decide +kernel
theorem blk_d : ∀ b : Fin 256, (blk b = true ↔ (sB b = 10 ∨ sB b = 32)) := by decide +kernel
theorem eLet {N b : Nat} (hb : b < 256) (h : MH) : f_Reader_isLetter N (sB b) h = some (if ltr b = true then 1 else 0, h) := by
  unfold f_Reader_isLetter
  have d := let_d ⟨b, hb⟩
  by_cases z : ltr b = true
  · obtain ⟨a, c⟩ := d.1 z
    rw [if_neg a, if_neg c, if_pos z]
  · rw [if_neg z]
    rcases d.2 z with a | a
    · rw [if_pos a]
    · by_cases y : sB b < 97
      · rw [if_pos y]
      · rw [if_neg y, if_pos a]
theorem eDig {N b : Nat} (hb : b < 256) (h : MH) : f_Reader_isDigit N (sB b) h = some (if dgt b = true then 1 else 0, h) := by
  unfold f_Reader_isDigit
  have d := dig_d ⟨b, hb⟩
  by_cases z : dgt b = true
  · obtain ⟨a, c⟩ := d.1 z
    rw [if_neg a, if_neg c, if_pos z]
  · rw [if_neg z]
    rcases d.2 z with a | a
    · rw [if_pos a]
    · by_cases y : sB b < 48
      · rw [if_pos y]
      · rw [if_neg y, if_pos a]
theorem eSgn {N b : Nat} (hb : b < 256) (h : MH) : f_Reader_isSignByte N (sB b) h = some (if sgnB b = true then 1 else 0, h) := by
  unfold f_Reader_isSignByte
  have d := sig_d ⟨b, hb⟩
  have d' : sgnB b = true ↔ (sB b = 59 ∨ sB b = 43 ∨ sB b = 45 ∨ sB b = 42 ∨ sB b = 40 ∨ sB b = 41) := d
  by_cases z : sgnB b = true
  · rw [if_pos z]
    have := d'.mp z
    by_cases c1 : sB b = 59
    · rw [if_pos c1]
    rw [if_neg c1]
    by_cases c2 : sB b = 43
    · rw [if_pos c2]
    rw [if_neg c2]
    by_cases c3 : sB b = 45
    · rw [if_pos c3]
    rw [if_neg c3]
    by_cases c4 : sB b = 42
    · rw [if_pos c4]
    rw [if_neg c4]
    by_cases c5 : sB b = 40
    · rw [if_pos c5]
    rw [if_neg c5]
    by_cases c6 : sB b = 41
    · rw [if_pos c6]
    · simp only [c1, c2, c3, c4, c5, c6, or_self] at this
  · rw [if_neg z]
    rw [if_neg (fun y => z (d'.mpr (.inl y))), if_neg (fun y => z (d'.mpr (.inr (.inl y)))), if_neg (fun y => z (d'.mpr (.inr (.inr (.inl y))))), if_neg (fun y => z (d'.mpr (.inr (.inr (.inr (.inl y)))))), if_neg (fun y => z (d'.mpr (.inr (.inr (.inr (.inr (.inl y))))))), if_neg (fun y => z (d'.mpr (.inr (.inr (.inr (.inr (.inr y)))))))]
def w34 (c k : Nat) : Bool := c == 3 && k == 4
def w35 (c k : Nat) : Bool := c == 3 && k == 5
def w356 (c k : Nat) : Bool := c == 3 && (k == 5 || k == 6)
theorem lSkip {N n : Nat} {B : Nat → Nat} : ∀ (d p f : Nat) (h : MH), p + d = n → d < f → CX n B h → gI h 3 4 = nI p → ∃ f' h', f ≤ f' + d + 1 ∧ (L_Reader_advance N f).1 h = F_Reader_advance_60 N (L_Reader_advance N f') h' ∧ Fr w34 h h' ∧ gI h' 3 4 = nI (rn blk B n p) := by
  intro d
  induction d with
  | zero =>
    intro p f h hd hf x e
    obtain ⟨f, rfl⟩ : ∃ z, f = z + 1 := ⟨f - 1, by omega⟩
    have n6 := x.1
    refine ⟨f, h, by omega, ?_, Fr.rfl, by rw [rn_end (by omega)]; exact e⟩
    show F_Reader_advance_8 N (L_Reader_advance N f) h = _
    unfold F_Reader_advance_8
    rw [e, x.2.1, if_pos (by rw [nN_le (by omega) (by omega)]; omega)]
  | succ d ih =>
    intro p f h hd hf x e
    obtain ⟨f, rfl⟩ : ∃ z, f = z + 1 := ⟨f - 1, by omega⟩
    have n6 := x.1
    obtain ⟨b1, b2⟩ := x.2.2 p (by omega)
    have ib : inB (nI p) 600 = true := by rw [inB_nI (by omega)]; omega
    have bd : blk (B p) = true ↔ (sB (B p) = 10 ∨ sB (B p) = 32) := blk_d ⟨B p, b1⟩
    show ∃ f' h', _ ∧ F_Reader_advance_8 N (L_Reader_advance N f) h = _ ∧ _
    unfold F_Reader_advance_8
    rw [e, x.2.1, if_neg (by rw [nN_le (by omega) (by omega)]; omega), if_pos ib, iN_nI (by omega), b2, show nI p + 1 = nI (p + 1) from nN_add p 1]
    have go : blk (B p) = true → ∃ f' h', f + 1 ≤ f' + (d + 1) + 1 ∧ (L_Reader_advance N f).1 (sI h 3 4 (nI (p + 1))) = F_Reader_advance_60 N (L_Reader_advance N f') h' ∧ Fr w34 h h' ∧ gI h' 3 4 = nI (rn blk B n p) := fun z => by
      obtain ⟨f', h', a1, a2, a3, a4⟩ := ih (p + 1) f (sI h 3 4 (nI (p + 1))) (by omega) (by omega) (CX_fr x ((Fr.rfl (W := w34)).sI 3 4 _ rfl) rfl (fun _ => rfl)) rfl
      exact ⟨f', h', by omega, a2, ((Fr.rfl (W := w34)).sI 3 4 _ rfl).trans a3, by rw [rn_go (by omega) z]; exact a4⟩
    by_cases c1 : sB (B p) = 10
    · rw [if_pos c1]
      exact go (bd.mpr (.inl c1))
    rw [if_neg c1, if_pos ib]
    by_cases c2 : sB (B p) = 32
    · rw [if_pos c2]
      exact go (bd.mpr (.inr c2))
    rw [if_neg c2]
    refine ⟨f, h, by omega, rfl, Fr.rfl, ?_⟩
    rw [rn_stop (by omega) (fun z => by rcases bd.mp z with y | y; exact c1 y; exact c2 y)]
    exact e
theorem lWord {N n : Nat} {B : Nat → Nat} : ∀ (d p f : Nat) (h : MH), p + d = n → d < f → CX n B h → gI h 3 5 = nI p → ∃ h', (L_Reader_advance N f).2 h = some h' ∧ Fr w35 h h' ∧ gI h' 3 5 = nI (rn ltr B n p) := by
  intro d
  induction d with
  | zero =>
    intro p f h hd hf x e
    obtain ⟨f, rfl⟩ : ∃ z, f = z + 1 := ⟨f - 1, by omega⟩
    have n6 := x.1
    refine ⟨h, ?_, Fr.rfl, by rw [rn_end (by omega)]; exact e⟩
    show F_Reader_advance_107 N (L_Reader_advance N f) h = _
    unfold F_Reader_advance_107
    rw [e, x.2.1, if_pos (by rw [nN_le (by omega) (by omega)]; omega)]
  | succ d ih =>
    intro p f h hd hf x e
    obtain ⟨f, rfl⟩ : ∃ z, f = z + 1 := ⟨f - 1, by omega⟩
    have n6 := x.1
    obtain ⟨b1, b2⟩ := x.2.2 p (by omega)
    have ib : inB (nI p) 600 = true := by rw [inB_nI (by omega)]; omega
    show ∃ h', F_Reader_advance_107 N (L_Reader_advance N f) h = _ ∧ _
    unfold F_Reader_advance_107
    rw [e, x.2.1, if_neg (by rw [nN_le (by omega) (by omega)]; omega), if_pos ib, iN_nI (by omega), b2, eLet b1, bnd_some]
    dsimp only
    by_cases z : ltr (B p) = true
    · rw [if_pos z, if_neg (by decide), e, show nI p + 1 = nI (p + 1) from nN_add p 1]
      obtain ⟨h', a2, a3, a4⟩ := ih (p + 1) f (sI h 3 5 (nI (p + 1))) (by omega) (by omega) (CX_fr x ((Fr.rfl (W := w35)).sI 3 5 _ rfl) rfl (fun _ => rfl)) rfl
      exact ⟨h', a2, ((Fr.rfl (W := w35)).sI 3 5 _ rfl).trans a3, by rw [rn_go (by omega) z]; exact a4⟩
    · rw [if_neg z, if_pos rfl]
      exact ⟨h, rfl, Fr.rfl, by rw [rn_stop (by omega) z]; exact e⟩
theorem dig_v : ∀ b : Fin 256, dgt b = true → sB b = nI b ∧ 48 ≤ b.val ∧ b.val ≤ 57 := by decide +kernel
theorem vl_le {B : Nat → Nat} {st : Nat} : ∀ k, (∀ j, j < k → B (st + j) ≤ 57) → vl B st k < 10 ^ k
  | 0, _ => by show 0 < 1; omega
  | k + 1, h => by
    have a := vl_le k (fun j hj => h j (by omega))
    have b := h k (by omega)
    show 10 * vl B st k + (B (st + k) - 48) < _
    rw [Nat.pow_succ]
    omega
theorem lNum {N n : Nat} {B : Nat → Nat} {st : Nat} : ∀ (d p f : Nat) (h : MH), p + d = n → st ≤ p → (∀ j, st ≤ j → j < p → dgt (B j) = true) → d < f → CX n B h → gI h 3 4 = nI st → gI h 3 5 = nI p → (p ≤ st + 4 → gI h 3 6 = nI (vl B st (p - st))) → ∃ f' h', L_Reader_scanNumber N f h = F_Reader_scanNumber_86 N (L_Reader_scanNumber N f') h' ∧ Fr w356 h h' ∧ gI h' 3 5 = nI (rn dgt B n p) ∧ (rn dgt B n p ≤ st + 4 → gI h' 3 6 = nI (vl B st (rn dgt B n p - st))) := by
  intro d
  induction d with
  | zero =>
    intro p f h hd hst hdg hf x e4 e e6
    obtain ⟨f, rfl⟩ : ∃ z, f = z + 1 := ⟨f - 1, by omega⟩
    have n6 := x.1
    refine ⟨f, h, ?_, Fr.rfl, by rw [rn_end (by omega)]; exact e, by rw [rn_end (by omega)]; exact e6⟩
    show F_Reader_scanNumber_10 N (L_Reader_scanNumber N f) h = _
    unfold F_Reader_scanNumber_10
    rw [e, x.2.1, if_pos (by rw [nN_le (by omega) (by omega)]; omega)]
  | succ d ih =>
    intro p f h hd hst hdg hf x e4 e e6
    obtain ⟨f, rfl⟩ : ∃ z, f = z + 1 := ⟨f - 1, by omega⟩
    have n6 := x.1
    obtain ⟨b1, b2⟩ := x.2.2 p (by omega)
    have ib : inB (nI p) 600 = true := by rw [inB_nI (by omega)]; omega
    show ∃ f' h', F_Reader_scanNumber_10 N (L_Reader_scanNumber N f) h = _ ∧ _
    unfold F_Reader_scanNumber_10
    rw [e, x.2.1, if_neg (by rw [nN_le (by omega) (by omega)]; omega), if_pos ib, iN_nI (by omega), b2, eDig b1, bnd_some]
    dsimp only
    by_cases z : dgt (B p) = true
    · have dv : sB (B p) = nI (B p) ∧ 48 ≤ B p ∧ B p ≤ 57 := dig_v ⟨B p, b1⟩ z
      have hdg' : ∀ j, st ≤ j → j < p + 1 → dgt (B j) = true := fun j h1 h2 => by
        by_cases y : j = p
        · rw [y]; exact z
        · exact hdg j h1 (by omega)
      rw [if_pos z, if_neg (by decide), e4, e, nN_sub hst, show (4 : Int32) = nI 4 from rfl, show nI p + 1 = nI (p + 1) from nN_add p 1]
      by_cases y : 4 ≤ p - st
      · rw [if_pos (by rw [nN_le (by omega) (by omega)]; exact y)]
        obtain ⟨f', h', a2, a3, a4, a5⟩ := ih (p + 1) f (sI h 3 5 (nI (p + 1))) (by omega) (by omega) hdg' (by omega) (CX_fr x ((Fr.rfl (W := w35)).sI 3 5 _ rfl) rfl (fun _ => rfl)) e4 rfl (fun q => by omega)
        exact ⟨f', h', a2, ((Fr.rfl (W := w356)).sI 3 5 _ rfl).trans a3, by rw [rn_go (by omega) z]; exact a4, by rw [rn_go (by omega) z]; exact a5⟩
      · rw [if_neg (by rw [nN_le (by omega) (by omega)]; exact y), if_pos ib, e6 (by omega), iN_nI (by omega), b2, dv.1]
        have bd := vl_le (B := B) (st := st) (p - st) (fun j hj => (dig_v ⟨B (st + j), (x.2.2 (st + j) (by omega)).1⟩ (hdg (st + j) (by omega) (by omega))).2.2)
        have e10 : nI (vl B st (p - st)) * 10 + nI (B p) - 48 = nI (vl B st (p + 1 - st)) := by
          rw [show p + 1 - st = (p - st) + 1 by omega]
          show _ = nI (10 * vl B st (p - st) + (B (st + (p - st)) - 48))
          rw [show st + (p - st) = p by omega, show (10 : Int32) = nI 10 from rfl, show (48 : Int32) = nI 48 from rfl, nN_mul, nN_add, nN_sub (by omega)]
          congr 1
          omega
        rw [e10]
        have e5 : gI (sI h 3 6 (nI (vl B st (p + 1 - st)))) 3 5 = nI p := e
        rw [e5, show nI p + 1 = nI (p + 1) from nN_add p 1]
        obtain ⟨f', h', a2, a3, a4, a5⟩ := ih (p + 1) f (sI (sI h 3 6 (nI (vl B st (p + 1 - st)))) 3 5 (nI (p + 1))) (by omega) (by omega) hdg' (by omega) (CX_fr x (((Fr.rfl (W := w356)).sI 3 6 _ rfl).sI 3 5 _ rfl) rfl (fun _ => rfl)) e4 rfl (fun q => rfl)
        exact ⟨f', h', a2, (((Fr.rfl (W := w356)).sI 3 6 _ rfl).sI 3 5 _ rfl).trans a3, by rw [rn_go (by omega) z]; exact a4, by rw [rn_go (by omega) z]; exact a5⟩
    · rw [if_neg z, if_pos rfl]
      exact ⟨f, h, rfl, Fr.rfl, by rw [rn_stop (by omega) z]; exact e, by rw [rn_stop (by omega) z]; exact e6⟩
