/-! SLIPS: what they are; the reference's side -/
abbrev PB : Type := Nat × Nat × (Nat → Nat → Int) × (Nat → Nat → Bool) × (Nat → Int) × (Nat → Int)
def pU (P : PB) : Nat → Nat → Int := P.2.2.1
def pN (P : PB) : Nat → Nat → Bool := P.2.2.2.1
def pl (P : PB) : Nat → Int := P.2.2.2.2.1
def pH (P : PB) : Nat → Int := P.2.2.2.2.2
/-- what the first c cells move a mark -/
def ps (U : Nat → Nat → Int) (k : Nat) (x : Nat → Nat) : Nat → Int
  | 0 => 0
  | c + 1 => ps U k x c + x c * U c k
def okM (P : PB) (k : Nat) (x : Nat → Nat) : Prop := pl P k ≤ ps (pU P) k x P.1 ∧ ps (pU P) k x P.1 ≤ pH P k
def okS (P : PB) (s : Nat) (x : Nat → Nat) : Prop := ∀ a b, b < a → a < P.1 → pN P a b = true → x a ≤ x b + s ∧ x b ≤ x a + s
def dg (n k : Nat) : Nat → Nat := fun c => k / 10 ^ (n - 1 - c) % 10
theorem dg_lt (n k c : Nat) : dg n k c < 10 := Nat.mod_lt _ (by omega)
theorem ps_congr {U : Nat → Nat → Int} {k : Nat} {x y : Nat → Nat} : ∀ {c : Nat}, (∀ i, i < c → x i = y i) → ps U k x c = ps U k y c
  | 0, _ => rfl
  | c + 1, h => by unfold ps; rw [ps_congr (fun i hi => h i (by omega)), h c (by omega)]
/-- the reference's heap tells the problem -/
def PM (P : PB) (h : MH) : Prop := P.1 ≤ 6 ∧ P.2.1 ≤ 8 ∧ gI h 68 32 = nI P.1 ∧ gI h 68 33 = nI P.2.1 ∧ (∀ c k, c < 6 → k < 8 → (gI h 88 (8 * c + k)).toInt = pU P c k ∧ (pU P c k).natAbs ≤ 9) ∧ (∀ a b, a < 6 → b < 6 → gI h 89 (6 * a + b) = if pN P a b = true then 1 else 0) ∧ (∀ k, k < P.2.1 → (gI h 104 k).toInt = pl P k ∧ (gI h 105 k).toInt = pH P k)
/-- what count and its like write -/
def wC (c k : Nat) : Bool := c == 103 || c == 106 || c == 107 || c == 108
theorem PM_fr {P : PB} {h h' : MH} (p : PM P h) (f : Fr wC h h') : PM P h' := by
  obtain ⟨p1, p2, p3, p4, p5, p6, p7⟩ := p
  refine ⟨p1, p2, by rw [f.i 68 32 rfl]; exact p3, by rw [f.i 68 33 rfl]; exact p4, fun c k hc hk => by rw [f.i 88 _ rfl]; exact p5 c k hc hk, fun a b ha hb => by rw [f.i 89 _ rfl]; exact p6 a b ha hb, fun k hk => by rw [f.i 104 _ rfl, f.i 105 _ rfl]; exact p7 k hk⟩
def X3 (h : MH) (n : Nat) (x : Nat → Nat) : Prop := ∀ c, c < n → gI h 103 c = nI (x c)
def w103 (c _k : Nat) : Bool := c == 103
theorem idiv10 {k : Nat} (hk : k < 2147483648) : nI k / 10 = nI (k / 10) := by
  rw [← Int32.toInt_inj, Int32.toInt_div, nN_toInt hk, show (10 : Int32).toInt = ((10 : Nat) : Int) from rfl, ← Int.ofNat_tdiv, nN_toInt (by omega)]
  exact bm32 (by omega) (by omega)
theorem imod10 {k : Nat} (hk : k < 2147483648) : nI k - nI k / 10 * 10 = nI (k % 10) := by
  rw [idiv10 hk, L10, nN_mul, nN_sub (by omega)]
  congr 1; omega
theorem lLay {N : Nat} {n : Nat} (hn6 : n ≤ 6) {k : Nat} (hk : k < 10000000) : ∀ (q f : Nat) (h : MH), q ≤ n → q < f → (∀ c, q ≤ c → c < n → gI h 103 c = nI (dg n k c)) → ∃ h', L_M_lay N f (nI (k / 10 ^ (n - q))) (nI q + -1) h = some h' ∧ Fr w103 h h' ∧ X3 h' n (dg n k) := by
  intro q
  induction q with
  | zero =>
    intro f h hq hf hx
    obtain ⟨f, rfl⟩ : ∃ z, f = z + 1 := ⟨f - 1, by omega⟩
    refine ⟨h, ?_, Fr.rfl, fun c hc => hx c (by omega) hc⟩
    show F_M_lay_9 N (L_M_lay N f) _ (nI 0 + -1) h = _
    unfold F_M_lay_9
    rw [if_pos (by decide)]
  | succ q ih =>
    intro f h hq hf hx
    obtain ⟨f, rfl⟩ : ∃ z, f = z + 1 := ⟨f - 1, by omega⟩
    have hlt : k / 10 ^ (n - (q + 1)) ≤ k := Nat.div_le_self _ _
    rw [show (L_M_lay N (f + 1)) = F_M_lay_9 N (L_M_lay N f) from rfl]
    unfold F_M_lay_9
    rw [nN_pred, if_neg (by rw [L0, nN_lt (by omega) (by omega)]; omega), if_neg (by decide), if_pos (by rw [inB_nI (by omega)]; omega), if_neg (by decide), iN_nI (by omega), imod10 (by omega), idiv10 (by omega)]
    have e1 : k / 10 ^ (n - (q + 1)) / 10 = k / 10 ^ (n - q) := by
      rw [Nat.div_div_eq_div_mul, ← Nat.pow_succ]; congr 2; omega
    have e2 : k / 10 ^ (n - (q + 1)) % 10 = dg n k q := by unfold dg; congr 3; omega
    rw [e1, e2]
    obtain ⟨h', a1, a2, a3⟩ := ih f (sI h 103 q (nI (dg n k q))) (by omega) (by omega) (fun c c1 c2 => by
      rw [gI_sI]
      by_cases z : c = q
      · rw [if_pos ⟨rfl, z⟩, z]
      · rw [if_neg (by omega)]; exact hx c (by omega) c2)
    exact ⟨h', a1, (Fr.rfl.sI 103 q _ rfl).trans a2, a3⟩
theorem eLay {N : Nat} (hN : 100 < N) {P : PB} {h : MH} (p : PM P h) {k : Nat} (hk : k < 10000000) : ∃ h', f_M_lay N (nI k) h = some h' ∧ Fr w103 h h' ∧ X3 h' P.1 (dg P.1 k) := by
  obtain ⟨p1, p2, p3, -⟩ := p
  have := lLay (N := N) p1 hk P.1 (N + 1) h (Nat.le_refl _) (by omega) (fun c c1 c2 => by omega)
  rw [Nat.sub_self, Nat.pow_zero, Nat.div_one] at this
  obtain ⟨h', a1, a2⟩ := this
  refine ⟨h', ?_, a2⟩
  show F_M_lay_9 N (L_M_lay N N) (nI k) (gI h 68 32 - 1) h = _
  rw [p3, show nI P.1 - 1 = nI P.1 + -1 by grind]
  exact a1
theorem abs_d : ∀ a b : Fin 10, (if 0 ≤ nI a - nI b then nI a - nI b else -(nI a - nI b)) = nI (a.val - b.val + (b.val - a.val)) := by decide +kernel
/-- the greatest bend of cells below a, and of a with those below b -/
theorem lBend {N : Nat} {P : PB} {h : MH} (p : PM P h) {x : Nat → Nat} (hx : X3 h P.1 x) (x9 : ∀ c, c < P.1 → x c < 10) : ∀ (d a f v : Nat), a + d = P.1 → 10 * d < f → v ≤ 9 → (∀ s, v ≤ s ↔ ∀ i j, j < i → i < a → pN P i j = true → x i ≤ x j + s ∧ x j ≤ x i + s) → ∃ w, (L_M_bend N f).1 (nI v) (nI a) h = some (nI w, h) ∧ w ≤ 9 ∧ ∀ s, w ≤ s ↔ okS P s x := by
  obtain ⟨p1, p2, p3, p4, p5, p6, p7⟩ := p
  intro d
  induction d with
  | zero =>
    intro a f v hd hf hv hs
    obtain ⟨f, rfl⟩ : ∃ z, f = z + 1 := ⟨f - 1, by omega⟩
    refine ⟨v, ?_, hv, fun s => ?_⟩
    · show F_M_bend_4 N (L_M_bend N f) (nI v) (nI a) h = _
      unfold F_M_bend_4
      rw [p3, if_pos (by rw [nN_le (by omega) (by omega)]; omega)]
    · rw [hs s, show a = P.1 by omega]; exact ⟨fun q i j => q i j, fun q i j => q i j⟩
  | succ d ih =>
    intro a f v hd hf hv hs
    obtain ⟨f, rfl⟩ : ∃ z, f = z + 1 := ⟨f - 1, by omega⟩
    show ∃ w, F_M_bend_4 N (L_M_bend N f) (nI v) (nI a) h = some (nI w, h) ∧ _
    unfold F_M_bend_4
    rw [p3, if_neg (by rw [nN_le (by omega) (by omega)]; omega)]
    have inner : ∀ (e b f v : Nat), b + e = a → 10 * d + 1 + e < f → v ≤ 9 → (∀ s, v ≤ s ↔ (∀ i j, j < i → i < a → pN P i j = true → x i ≤ x j + s ∧ x j ≤ x i + s) ∧ ∀ j, j < b → pN P a j = true → x a ≤ x j + s ∧ x j ≤ x a + s) → ∃ w, (L_M_bend N f).2 (nI v) (nI a) (nI b) h = some (nI w, h) ∧ w ≤ 9 ∧ ∀ s, w ≤ s ↔ okS P s x := by
      intro e
      induction e with
      | zero =>
        intro b f v hb hf hv hs
        obtain ⟨f, rfl⟩ : ∃ z, f = z + 1 := ⟨f - 1, by omega⟩
        show ∃ w, F_M_bend_14 N (L_M_bend N f) (nI v) (nI a) (nI b) h = some (nI w, h) ∧ _
        unfold F_M_bend_14
        rw [if_pos (by rw [nN_le (by omega) (by omega)]; omega), show nI a + 1 = nI (a + 1) from nN_add a 1]
        refine ih (a + 1) f v (by omega) (by omega) hv (fun s => ?_)
        rw [hs s]
        constructor
        · rintro ⟨q1, q2⟩ i j j1 i1 hn
          by_cases c : i = a
          · subst c; exact q2 j (by omega) hn
          · exact q1 i j j1 (by omega) hn
        · intro q
          exact ⟨fun i j j1 i1 => q i j j1 (by omega), fun j j1 => q a j (by omega) (by omega)⟩
      | succ e ihe =>
        intro b f v hb hf hv hs
        obtain ⟨f, rfl⟩ : ∃ z, f = z + 1 := ⟨f - 1, by omega⟩
        show ∃ w, F_M_bend_14 N (L_M_bend N f) (nI v) (nI a) (nI b) h = some (nI w, h) ∧ _
        unfold F_M_bend_14
        rw [if_neg (by rw [nN_le (by omega) (by omega)]; omega), L6, nN_mul, nN_add, if_pos (by rw [inB_nI (by omega)]; omega), iN_nI (by omega), p6 a b (by omega) (by omega), show nI b + 1 = nI (b + 1) from nN_add b 1]
        simp only [bz]
        by_cases hn : pN P a b = true
        · rw [if_neg (by simp [hn]), if_pos (show inB (nI a) 6 = true by rw [inB_nI (by omega)]; omega), if_pos (show inB (nI b) 6 = true by rw [inB_nI (by omega)]; omega), iN_nI (by omega), iN_nI (by omega), hx a (by omega), hx b (by omega)]
          have ab : f_Math_abs_I N (nI (x a) - nI (x b)) h = some (nI (x a - x b + (x b - x a)), h) := by
            unfold f_Math_abs_I
            have := abs_d ⟨x a, x9 a (by omega)⟩ ⟨x b, x9 b (by omega)⟩
            rw [some_ite, this]
          rw [ab, bnd_some]
          dsimp only
          have xa := x9 a (by omega)
          have xb := x9 b (by omega)
          have mx : f_Math_max N (nI v) (nI (x a - x b + (x b - x a))) h = some (nI (max v (x a - x b + (x b - x a))), h) := by
            unfold f_Math_max
            by_cases c : v < x a - x b + (x b - x a)
            · rw [if_pos (by rw [nN_lt (by omega) (by omega)]; exact c), Nat.max_eq_right (by omega)]
            · rw [if_neg (by rw [nN_lt (by omega) (by omega)]; exact c), Nat.max_eq_left (by omega)]
          rw [mx, bnd_some]
          refine ihe (b + 1) f _ (by omega) (by omega) (by omega) (fun s => ?_)
          rw [Nat.max_le, hs s]
          constructor
          · rintro ⟨⟨q1, q2⟩, q3⟩
            refine ⟨q1, fun j j1 hj => ?_⟩
            by_cases c : j = b
            · subst c; omega
            · exact q2 j (by omega) hj
          · rintro ⟨q1, q2⟩
            have := q2 b (by omega) hn
            exact ⟨⟨q1, fun j j1 => q2 j (by omega)⟩, by omega⟩
        · rw [if_pos hn]
          refine ihe (b + 1) f v (by omega) (by omega) hv (fun s => ?_)
          rw [hs s]
          constructor
          · rintro ⟨q1, q2⟩
            refine ⟨q1, fun j j1 hj => ?_⟩
            by_cases c : j = b
            · subst c; exact absurd hj hn
            · exact q2 j (by omega) hj
          · rintro ⟨q1, q2⟩
            exact ⟨q1, fun j j1 => q2 j (by omega)⟩
    exact inner a 0 (f + 1) v (by omega) (by omega) hv (fun s => by
      rw [hs s]
      exact ⟨fun q => ⟨q, fun j j1 => by omega⟩, fun q => q.1⟩)
theorem eBend {N : Nat} (hN : 100 < N) {P : PB} {h : MH} (p : PM P h) {x : Nat → Nat} (hx : X3 h P.1 x) (x9 : ∀ c, c < P.1 → x c < 10) : ∃ w, f_M_bend N h = some (nI w, h) ∧ w ≤ 9 ∧ ∀ s, w ≤ s ↔ okS P s x :=
  lBend (N := N) p hx x9 P.1 0 (N + 1) 0 (by omega) (by have := p.1; omega) (by omega) (fun s => ⟨fun _ i j _ hi => by omega, fun _ => by omega⟩)
theorem ps_bd {U : Nat → Nat → Int} {k : Nat} {x : Nat → Nat} (hU : ∀ c, c < 6 → (U c k).natAbs ≤ 9) (hx : ∀ c, c < 6 → x c < 10) : ∀ c, c ≤ 6 → (ps U k x c).natAbs ≤ 81 * c
  | 0, _ => by simp [ps]
  | c + 1, hc => by
    have ih := ps_bd hU hx c (by omega)
    have := nb (x := (x c : Int)) (y := U c k) (A := 9) (B := 9) (by have := hx c (by omega); omega) (hU c (by omega))
    unfold ps
    generalize (x c : Int) * U c k = z at *
    omega
theorem mulU {a : Nat} {b : Int32} (ha : a < 10) (hb : b.toInt.natAbs ≤ 9) : (nI a * b).toInt = a * b.toInt := by
  have := nb (x := (a : Int)) (y := b.toInt) (A := 9) (B := 9) (by omega) hb
  rw [i_mul, nN_toInt (by omega)] <;> rw [nN_toInt (by omega)] <;> omega
/-- which marks of a set fit -/
def FT (P : PB) (x : Nat → Nat) (some' m v : Nat) : Prop := v < 256 ∧ ∀ k, k < 8 → (v.testBit k = true ↔ k < m ∧ some'.testBit k = true ∧ okM P k x)
theorem lFit {N : Nat} {P : PB} {h : MH} (p : PM P h) {x : Nat → Nat} (hx : X3 h P.1 x) (x9 : ∀ c, x c < 10) {sm : Nat} (hsm : sm < 256) : ∀ (d m f v : Nat), m + d = P.2.1 → 10 * d < f → FT P x sm m v → ∃ w, (L_M_fitting N f).1 (nI sm) (nI v) (nI m) h = some (nI w, h) ∧ FT P x sm P.2.1 w := by
  obtain ⟨p1, p2, p3, p4, p5, p6, p7⟩ := p
  intro d
  induction d with
  | zero =>
    intro m f v hd hf ft
    obtain ⟨f, rfl⟩ : ∃ z, f = z + 1 := ⟨f - 1, by omega⟩
    refine ⟨v, ?_, by rw [show P.2.1 = m by omega]; exact ft⟩
    show F_M_fitting_4 N (L_M_fitting N f) (nI sm) (nI v) (nI m) h = _
    unfold F_M_fitting_4
    rw [p4, if_pos (by rw [nN_le (by omega) (by omega)]; omega)]
  | succ d ih =>
    intro m f v hd hf ft
    obtain ⟨f, rfl⟩ : ∃ z, f = z + 1 := ⟨f - 1, by omega⟩
    show ∃ w, F_M_fitting_4 N (L_M_fitting N f) (nI sm) (nI v) (nI m) h = some (nI w, h) ∧ _
    unfold F_M_fitting_4
    have m8 : m < 8 := by omega
    rw [p4, if_neg (by rw [nN_le (by omega) (by omega)]; omega), show nI m + 1 = nI (m + 1) from nN_add m 1]
    simp only [bit0 hsm m8]
    -- v as it stays when the mark doesn't come to it
    have stay : ¬ (sm.testBit m = true ∧ okM P m x) → FT P x sm (m + 1) v := fun q => ⟨ft.1, fun k hk => by
      rw [ft.2 k hk]
      constructor
      · rintro ⟨a, b⟩; exact ⟨by omega, b⟩
      · rintro ⟨a, b⟩
        refine ⟨?_, b⟩
        by_cases c : k = m
        · subst c; exact absurd b q
        · omega⟩
    have vm : v.testBit m = false := by
      cases z : v.testBit m
      · rfl
      · have := ((ft.2 m m8).mp z).1; omega
    have take : sm.testBit m = true → okM P m x → FT P x sm (m + 1) (v ||| 2 ^ m) := fun q1 q2 => ⟨or_lt ft.1 (Nat.lt_of_lt_of_le (Nat.pow_lt_pow_right (a := 2) (by omega) m8) (by omega)), fun k hk => by
      rw [tb_or2, Bool.or_eq_true, ft.2 k hk, decide_eq_true_eq]
      constructor
      · rintro (⟨a, b⟩ | c)
        · exact ⟨by omega, b⟩
        · subst c; exact ⟨by omega, q1, q2⟩
      · rintro ⟨a, b⟩
        by_cases c : m = k
        · exact .inr c
        · exact .inl ⟨by omega, b⟩⟩
    by_cases b : sm.testBit m = false
    · rw [if_pos b]
      exact ih (m + 1) f v (by omega) (by omega) (stay (by rw [b]; simp))
    · rw [if_neg b]
      have bt : sm.testBit m = true := by cases z : sm.testBit m; exact absurd z b; rfl
      have hU : ∀ c, c < 6 → (pU P c m).natAbs ≤ 9 := fun c hc => (p5 c m hc m8).2
      have inner : ∀ (e c f : Nat) (z : Int32), c + e = P.1 → 10 * d + 1 + e < f → z.toInt = ps (pU P) m x c → ∃ w, (L_M_fitting N f).2 (nI sm) (nI v) (nI m) z (nI c) h = some (nI w, h) ∧ FT P x sm P.2.1 w := by
        intro e
        induction e with
        | zero =>
          intro c f z hc hf hz
          obtain ⟨f, rfl⟩ : ∃ z, f = z + 1 := ⟨f - 1, by omega⟩
          show ∃ w, F_M_fitting_29 N (L_M_fitting N f) (nI sm) (nI v) (nI m) z (nI c) h = some (nI w, h) ∧ _
          unfold F_M_fitting_29
          have i8 : inB (nI m) 8 = true := by rw [inB_nI (by omega)]; omega
          have v0 : nI v ||| 0 = nI v := by rw [L0, nI_or, Nat.or_zero]
          rw [p3, if_pos (by rw [nN_le (by omega) (by omega)]; omega), if_pos i8, if_pos i8, iN_nI (by omega), show nI m + 1 = nI (m + 1) from nN_add m 1, v0, shl_n (by omega), nI_or]
          have e1 : (z < gI h 104 m) = (ps (pU P) m x P.1 < pl P m) := by rw [Int32.lt_iff_toInt_lt, hz, (p7 m (by omega)).1, show c = P.1 by omega]
          have e2 : (gI h 105 m < z) = (pH P m < ps (pU P) m x P.1) := by rw [Int32.lt_iff_toInt_lt, hz, (p7 m (by omega)).2, show c = P.1 by omega]
          simp only [e1, e2]
          by_cases c1 : ps (pU P) m x P.1 < pl P m
          · rw [if_pos c1]
            exact ih (m + 1) f v (by omega) (by omega) (stay (fun q => by have := q.2.1; omega))
          · rw [if_neg c1]
            by_cases c2 : pH P m < ps (pU P) m x P.1
            · rw [if_pos c2]
              exact ih (m + 1) f v (by omega) (by omega) (stay (fun q => by have := q.2.2; omega))
            · rw [if_neg c2]
              exact ih (m + 1) f _ (by omega) (by omega) (take bt ⟨by omega, by omega⟩)
        | succ e ihe =>
          intro c f z hc hf hz
          obtain ⟨f, rfl⟩ : ∃ z, f = z + 1 := ⟨f - 1, by omega⟩
          show ∃ w, F_M_fitting_29 N (L_M_fitting N f) (nI sm) (nI v) (nI m) z (nI c) h = some (nI w, h) ∧ _
          unfold F_M_fitting_29
          rw [p3, if_neg (by rw [nN_le (by omega) (by omega)]; omega), if_pos (show inB (nI c) 6 = true by rw [inB_nI (by omega)]; omega), L8, nN_mul, nN_add, if_pos (by rw [inB_nI (by omega)]; omega), iN_nI (by omega), iN_nI (by omega), hx c (by omega), show nI c + 1 = nI (c + 1) from nN_add c 1]
          obtain ⟨u1, u2⟩ := p5 c m (by omega) m8
          have em := mulU (a := x c) (b := gI h 88 (8 * c + m)) (x9 c) (by rw [u1]; exact u2)
          rw [u1] at em
          have b1 := ps_bd (k := m) (x := x) hU (fun c _ => x9 c) c (by omega)
          have b2 := ps_bd (k := m) (x := x) hU (fun c _ => x9 c) (c + 1) (by omega)
          have e3 : ps (pU P) m x (c + 1) = ps (pU P) m x c + x c * pU P c m := rfl
          refine ihe (c + 1) f _ (by omega) (by omega) ?_
          rw [i_add (by rw [hz, em, ← e3]; omega) (by rw [hz, em, ← e3]; omega), hz, em, e3]
      exact inner P.1 0 (f + 1) 0 (by omega) (by omega) rfl
theorem eFit {N : Nat} (hN : 200 < N) {P : PB} {h : MH} (p : PM P h) {x : Nat → Nat} (hx : X3 h P.1 x) (x9 : ∀ c, x c < 10) {sm : Nat} (hsm : sm < 256) : ∃ w, f_M_fitting N (nI sm) h = some (nI w, h) ∧ FT P x sm P.2.1 w :=
  lFit (N := N) p hx x9 hsm P.2.1 0 (N + 1) 0 (by omega) (by have := p.2.1; omega) ⟨by omega, fun k hk => by simp⟩
/-- what a set of cells slips together -/
def sm6 (set : Nat) (x : Nat → Nat) : Nat → Nat
  | 0 => 0
  | c + 1 => sm6 set x c + (if set.testBit c = true then x c else 0)
theorem sm6_le {set : Nat} {x : Nat → Nat} (x9 : ∀ c, x c < 10) : ∀ c, sm6 set x c ≤ 9 * c
  | 0 => Nat.le_refl _
  | c + 1 => by
    have := sm6_le (set := set) x9 c
    have := x9 c
    unfold sm6
    split <;> omega
theorem eSum {N : Nat} (hN : 200 < N) {P : PB} {h : MH} (p : PM P h) {x : Nat → Nat} (hx : X3 h P.1 x) (x9 : ∀ c, x c < 10) {set : Nat} (hs : set < 256) : f_M_sumOf N (nI set) h = some (nI (sm6 set x P.1), h) := by
  obtain ⟨p1, p2, p3, -⟩ := p
  have main : ∀ (d c f : Nat), c + d = P.1 → d < f → L_M_sumOf N f (nI set) (nI (sm6 set x c)) (nI c) h = some (nI (sm6 set x P.1), h) := by
    intro d
    induction d with
    | zero =>
      intro c f hd hf
      obtain ⟨f, rfl⟩ : ∃ z, f = z + 1 := ⟨f - 1, by omega⟩
      show F_M_sumOf_4 N (L_M_sumOf N f) _ _ (nI c) h = _
      unfold F_M_sumOf_4
      rw [p3, if_pos (by rw [nN_le (by omega) (by omega)]; omega), show c = P.1 by omega]
    | succ d ih =>
      intro c f hd hf
      obtain ⟨f, rfl⟩ : ∃ z, f = z + 1 := ⟨f - 1, by omega⟩
      have ih' := ih (c + 1) f (by omega) (by omega)
      rw [show sm6 set x (c + 1) = sm6 set x c + (if set.testBit c = true then x c else 0) from rfl] at ih'
      show F_M_sumOf_4 N (L_M_sumOf N f) _ _ (nI c) h = _
      unfold F_M_sumOf_4
      rw [p3, if_neg (by rw [nN_le (by omega) (by omega)]; omega), show nI c + 1 = nI (c + 1) from nN_add c 1, iN_nI (by omega)]
      simp only [bit1 hs (show c < 8 by omega)]
      by_cases b : set.testBit c = true
      · rw [if_pos b, if_pos (by rw [inB_nI (by omega)]; omega), hx c (by omega), nN_add]
        rw [if_pos b] at ih'
        exact ih'
      · rw [if_neg b, show (0 : Int32) = nI 0 from rfl, nN_add]
        rw [if_neg b] at ih'
        exact ih'
  exact main P.1 0 (N + 1) (by omega) (by omega)
theorem eRows {N : Nat} (hN : 200 < N) {P : PB} {h : MH} (p : PM P h) : f_M_rowsOfSlips N h = some (nI (10 ^ P.1), h) := by
  obtain ⟨p1, p2, p3, -⟩ := p
  have main : ∀ (d c f : Nat), c + d = P.1 → d < f → L_M_rowsOfSlips N f (nI (10 ^ c)) (nI c) h = some (nI (10 ^ P.1), h) := by
    intro d
    induction d with
    | zero =>
      intro c f hd hf
      obtain ⟨f, rfl⟩ : ∃ z, f = z + 1 := ⟨f - 1, by omega⟩
      show F_M_rowsOfSlips_4 N (L_M_rowsOfSlips N f) _ (nI c) h = _
      unfold F_M_rowsOfSlips_4
      rw [p3, if_pos (by rw [nN_le (by omega) (by omega)]; omega), show c = P.1 by omega]
    | succ d ih =>
      intro c f hd hf
      obtain ⟨f, rfl⟩ : ∃ z, f = z + 1 := ⟨f - 1, by omega⟩
      show F_M_rowsOfSlips_4 N (L_M_rowsOfSlips N f) _ (nI c) h = _
      unfold F_M_rowsOfSlips_4
      rw [p3, if_neg (by rw [nN_le (by omega) (by omega)]; omega), show nI c + 1 = nI (c + 1) from nN_add c 1, L10, nN_mul, ← Nat.pow_succ]
      exact ih (c + 1) f (by omega) (by omega)
  exact main P.1 0 (N + 1) (by omega) (by omega)
