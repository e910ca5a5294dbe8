/-! LAND: keys and names -/
theorem one_ne (h : MH) : ¬ ((1 : Int32), h).1 = 0 := fun w => absurd (show (1 : Int32) = 0 from w) (by decide)
theorem zer_eq (h : MH) : ((0 : Int32), h).1 = 0 := rfl
theorem sgS_y {N n : Nat} {B : Nat → Nat} {t : Nat × Nat × Nat × Nat} {h : MH} (x : CX n B h) (g : TG B n t) (k : CK h t) {c : Nat} (hc : c < 128) (z : isg t c) : f_Reader_isSign N (nI c) h = some (1, h) := by
  haveI := Classical.propDecidable (isg t c)
  rw [eSignS x g k hc, if_pos z]
theorem sgS_n {N n : Nat} {B : Nat → Nat} {t : Nat × Nat × Nat × Nat} {h : MH} (x : CX n B h) (g : TG B n t) (k : CK h t) {c : Nat} (hc : c < 128) (z : ¬ isg t c) : f_Reader_isSign N (nI c) h = some (0, h) := by
  haveI := Classical.propDecidable (isg t c)
  rw [eSignS x g k hc, if_neg z]
theorem sgM_y {N n : Nat} {B : Nat → Nat} {t : Nat × Nat × Nat × Nat} {h : MH} (x : MX n B h) (g : TG B n t) (k : MK h t) {c : Nat} (hc : c < 128) (z : isg t c) : f_M_isSign N (nI c) h = some (1, h) := by
  haveI := Classical.propDecidable (isg t c)
  rw [eSignM x g k hc, if_pos z]
theorem sgM_n {N n : Nat} {B : Nat → Nat} {t : Nat × Nat × Nat × Nat} {h : MH} (x : MX n B h) (g : TG B n t) (k : MK h t) {c : Nat} (hc : c < 128) (z : ¬ isg t c) : f_M_isSign N (nI c) h = some (0, h) := by
  haveI := Classical.propDecidable (isg t c)
  rw [eSignM x g k hc, if_neg z]
theorem wdS_y {N n : Nat} (hN : 100 < N) {B : Nat → Nat} {t : Nat × Nat × Nat × Nat} {h : MH} (x : CX n B h) (g : TG B n t) (k : CK h t) {q : Nat} (hq : q < 10) (z : isw B t q) : f_Reader_isWord N q h = some (1, h) := by
  haveI := Classical.propDecidable (isw B t q)
  rw [eWordS hN x g k hq, if_pos z]
theorem wdS_n {N n : Nat} (hN : 100 < N) {B : Nat → Nat} {t : Nat × Nat × Nat × Nat} {h : MH} (x : CX n B h) (g : TG B n t) (k : CK h t) {q : Nat} (hq : q < 10) (z : ¬ isw B t q) : f_Reader_isWord N q h = some (0, h) := by
  haveI := Classical.propDecidable (isw B t q)
  rw [eWordS hN x g k hq, if_neg z]
def kO (j : Nat) : Nat := [0, 3, 4, 5, 6, 1, 2, 7, 8].getD j 0
def kS (j : Nat) : Nat := [1, 7, 12, 17, 23, 29, 35, 41, 46, 49].getD j 0
theorem key_d : ∀ j : Fin 9, kO j < 9 ∧ kS j + (WQ (kO j)).length + 1 = kS (j + 1) ∧ kS (j + 1) ≤ 49 ∧ (WQ 9).getD (kS j + (WQ (kO j)).length) 0 = 32 ∧ ∀ i : Fin 49, i.val < (WQ (kO j)).length → (WQ 9).getD (kS j + i) 0 = (WQ (kO j)).getD i 0 ∧ (WQ 9).getD (kS j + i) 0 ≠ 32 := by decide +kernel
theorem key_u : ∀ i j : Fin 9, WQ (kO i) = WQ (kO j) → i = j := by decide +kernel
theorem key_s : ∀ q : Fin 9, ∃ j : Fin 9, kO j = q.val := by decide +kernel
def kyf (B : Nat → Nat) (t : Nat × Nat × Nat × Nat) : Nat → Nat → Int32
  | 0, _ => -1
  | d + 1, j => if wdB B t = WQ (kO j) then nI j else kyf B t d (j + 1)
theorem kyf_is {B : Nat → Nat} {t : Nat × Nat × Nat × Nat} {j : Nat} (hj : j < 9) (h : wdB B t = WQ (kO j)) : ∀ d j0, j0 + d = 9 → j0 ≤ j → kyf B t d j0 = nI j
  | 0, j0, h1, h2 => by omega
  | d + 1, j0, h1, h2 => by
    show (if wdB B t = WQ (kO j0) then nI j0 else kyf B t d (j0 + 1)) = _
    by_cases z : j0 = j
    · rw [z, if_pos h]
    · rw [if_neg (fun w => z (by have := key_u ⟨j0, by omega⟩ ⟨j, hj⟩ (by show WQ (kO j0) = WQ (kO j); rw [← w, h]); exact congrArg Fin.val this))]
      exact kyf_is hj h d (j0 + 1) (by omega) (by omega)
theorem kyf_no {B : Nat → Nat} {t : Nat × Nat × Nat × Nat} (h : ∀ j, j < 9 → wdB B t ≠ WQ (kO j)) : ∀ d j0, j0 + d = 9 → kyf B t d j0 = -1
  | 0, j0, h1 => rfl
  | d + 1, j0, h1 => by
    show (if wdB B t = WQ (kO j0) then nI j0 else kyf B t d (j0 + 1)) = _
    rw [if_neg (h j0 (by omega))]
    exact kyf_no h d (j0 + 1) (by omega)
def ky (B : Nat → Nat) (t : Nat × Nat × Nat × Nat) : Int32 := if t.1 = 2 then kyf B t 9 0 else -1
theorem ky_is {B : Nat → Nat} {t : Nat × Nat × Nat × Nat} {j : Nat} (hj : j < 9) (h : isw B t (kO j)) : ky B t = nI j := by
  unfold ky; rw [if_pos h.1]; exact kyf_is hj h.2 9 0 (by omega) (by omega)
theorem ky_no {B : Nat → Nat} {t : Nat × Nat × Nat × Nat} (h : ∀ j, j < 9 → ¬ isw B t (kO j)) : ky B t = -1 := by
  unfold ky
  by_cases z : t.1 = 2
  · rw [if_pos z]; exact kyf_no (fun j hj w => h j hj ⟨z, w⟩) 9 0 (by omega)
  · rw [if_neg z]
theorem nI_n1 {j : Nat} (hj : j < 2147483648) : ¬ nI j = -1 := fun w => by
  have := congrArg Int32.toInt w
  rw [nN_toInt hj, show (-1 : Int32).toInt = -1 from rfl] at this
  omega
theorem ky_iff {B : Nat → Nat} {t : Nat × Nat × Nat × Nat} {j : Nat} (hj : j < 9) : ky B t = nI j ↔ isw B t (kO j) := by
  refine ⟨fun e => ?_, ky_is hj⟩
  by_cases z : ∃ i, i < 9 ∧ isw B t (kO i)
  · obtain ⟨i, hi, w⟩ := z
    rw [ky_is hi w, nN_inj (by omega) (by omega)] at e
    rw [← e]; exact w
  · rw [ky_no (fun i hi w => z ⟨i, hi, w⟩)] at e
    exact absurd e.symm (nI_n1 (by omega))
theorem eKey {N n : Nat} (hN : 2000 < N) {B : Nat → Nat} {t : Nat × Nat × Nat × Nat} {h : MH} (x : MX n B h) (g : TG B n t) (k : MK h t) : f_M_key N h = some (ky B t, h) := by
  have n6 := x.1
  obtain ⟨g0, g1, g2, -⟩ := g
  unfold f_M_key F_M_key_0 ky
  rw [k.1, show (2 : Int32) = nI 2 from rfl]
  simp only [nN_inj (show t.1 < 2147483648 by omega) (show 2 < 2147483648 by omega)]
  by_cases z : t.1 = 2
  case neg => rw [if_neg z, if_neg z]
  rw [if_pos z, if_pos z]
  obtain ⟨g3, g4⟩ := g2 (by omega)
  have e12 := k.2.2.1 (by omega)
  have e11 := k.2.1
  have l9 : (WQ 9).length = 49 := rfl
  -- comparing
  have cmp : ∀ (j : Nat), j < 9 → t.2.2.1 - t.2.1 = (WQ (kO j)).length → ∀ (d i f : Nat), i + d = (WQ (kO j)).length → d + 1 < f → (∀ m, m < i → B (t.2.1 + m) = (WQ (kO j)).getD m 0) → ∃ f', f ≤ f' + d + 2 ∧ (L_M_key N f).2.2 (nI j) (nI (kS j)) (nI (kS j + (WQ (kO j)).length)) 1 (nI (kS j + i)) h = F_M_key_114 N (L_M_key N f') (nI j) (nI (kS j + (WQ (kO j)).length)) (if wdB B t = WQ (kO j) then 1 else 0) h := by
    intro j hj hl d
    obtain ⟨k1, k2, k3, k4, k5⟩ := key_d ⟨j, hj⟩
    have k2' : kS j + (WQ (kO j)).length + 1 = kS (j + 1) := k2
    have k3' : kS (j + 1) ≤ 49 := k3
    induction d with
    | zero =>
      intro i f hd hf ho
      obtain ⟨f, rfl⟩ : ∃ z, f = z + 1 := ⟨f - 1, by omega⟩
      refine ⟨f, by omega, ?_⟩
      show F_M_key_67 N (L_M_key N f) (nI j) (nI (kS j)) _ 1 (nI (kS j + i)) h = _
      unfold F_M_key_67
      rw [if_pos (by rw [nN_le (by omega) (by omega)]; omega), if_pos (show wdB B t = WQ (kO j) from wdB_eq.mpr ⟨hl, fun m hm => ho m (by omega)⟩)]
    | succ d ih =>
      intro i f hd hf ho
      obtain ⟨f, rfl⟩ : ∃ z, f = z + 1 := ⟨f - 1, by omega⟩
      have hi : i < (WQ (kO j)).length := by omega
      have l2 : (WQ (kO j)).length ≤ 49 := (len_d ⟨kO j, Nat.lt_of_lt_of_le k1 (by omega)⟩).2.2
      obtain ⟨m1, m2⟩ := k5 ⟨i, by omega⟩ hi
      have m1' : (WQ 9).getD (kS j + i) 0 = (WQ (kO j)).getD i 0 := m1
      have c2 : (WQ (kO j)).getD i 0 < 128 := (chr_d ⟨kO j, Nat.lt_of_lt_of_le k1 (by omega)⟩ ⟨i, by omega⟩ hi).2
      have b1 := (x.2.2 (t.2.1 + i) (by omega)).1
      have av' : av n B (t.2.1 + i) = nI (B (t.2.1 + i)) := by unfold av; rw [if_pos (by omega)]
      show ∃ f', _ ∧ F_M_key_67 N (L_M_key N f) (nI j) (nI (kS j)) _ 1 (nI (kS j + i)) h = _
      unfold F_M_key_67
      rw [if_neg (by rw [nN_le (by omega) (by omega)]; omega), if_neg (by decide), eChar (q := 9) (by omega) (by omega), bnd_some]
      dsimp only
      rw [e11, nN_add, nN_sub (by omega), show t.2.1 + (kS j + i) - kS j = t.2.1 + i by omega, eAt x (by omega), bnd_some, m1', av']
      dsimp only
      simp only [nN_inj (show (WQ (kO j)).getD i 0 < 2147483648 by omega) (show B (t.2.1 + i) < 2147483648 by omega)]
      rw [show nI (kS j + i) + 1 = nI (kS j + (i + 1)) from nN_add _ 1]
      by_cases w : (WQ (kO j)).getD i 0 = B (t.2.1 + i)
      · rw [if_pos w]
        obtain ⟨f', a1, a2⟩ := ih (i + 1) f (by omega) (by omega) (fun m hm => by
          by_cases v : m = i
          · rw [v]; exact w.symm
          · exact ho m (by omega))
        exact ⟨f', by omega, a2⟩
      · rw [if_neg w]
        obtain ⟨f, rfl⟩ : ∃ z, f = z + 1 := ⟨f - 1, by omega⟩
        refine ⟨f, by omega, ?_⟩
        rw [if_neg (show ¬ wdB B t = WQ (kO j) from fun v => w ((wdB_eq.mp v).2 i hi).symm)]
        show F_M_key_67 N (L_M_key N f) (nI j) (nI (kS j)) _ 0 (nI (kS j + (i + 1))) h = _
        unfold F_M_key_67
        by_cases v : nI (kS j + (WQ (kO j)).length) ≤ nI (kS j + (i + 1))
        · rw [if_pos v]
        · rw [if_neg v, if_pos rfl]
  -- where the word ends
  have scan : ∀ (j : Nat), j < 9 → ∀ (d i f : Nat), i + d = (WQ (kO j)).length → d + 60 < f → ∃ f', f ≤ f' + d + 100 ∧ (L_M_key N f).2.1 (nI j) (nI (kS j)) (nI (kS j + i)) h = F_M_key_114 N (L_M_key N f') (nI j) (nI (kS j + (WQ (kO j)).length)) (if wdB B t = WQ (kO j) then 1 else 0) h := by
    intro j hj d
    obtain ⟨k1, k2, k3, k4, k5⟩ := key_d ⟨j, hj⟩
    have k2' : kS j + (WQ (kO j)).length + 1 = kS (j + 1) := k2
    have k3' : kS (j + 1) ≤ 49 := k3
    have k4' : (WQ 9).getD (kS j + (WQ (kO j)).length) 0 = 32 := k4
    induction d with
    | zero =>
      intro i f hd hf
      obtain ⟨f, rfl⟩ : ∃ z, f = z + 1 := ⟨f - 1, by omega⟩
      have ei : i = (WQ (kO j)).length := by omega
      show ∃ f', _ ∧ F_M_key_25 N (L_M_key N f) (nI j) (nI (kS j)) (nI (kS j + i)) h = _
      unfold F_M_key_25
      rw [ei, eChar (q := 9) (by omega) (by omega), bnd_some, k4']
      dsimp only
      rw [if_pos (by decide), e12, e11, nN_sub (by omega), nN_sub g3, show kS j + (WQ (kO j)).length - kS j = (WQ (kO j)).length by omega]
      simp only [nN_inj (show (WQ (kO j)).length < 2147483648 by omega) (show t.2.2.1 - t.2.1 < 2147483648 by omega)]
      by_cases y : (WQ (kO j)).length = t.2.2.1 - t.2.1
      · rw [if_pos y]
        obtain ⟨f', a1, a2⟩ := cmp j hj y.symm (WQ (kO j)).length 0 (f + 1) (by omega) (by omega) (fun m hm => absurd hm (Nat.not_lt_zero _))
        rw [Nat.add_zero] at a2
        exact ⟨f', by omega, a2⟩
      · rw [if_neg y, if_neg (show ¬ wdB B t = WQ (kO j) from fun v => y (wdB_eq.mp v).1.symm)]
        refine ⟨f, by omega, ?_⟩
        unfold F_M_key_67
        by_cases v : nI (kS j + (WQ (kO j)).length) ≤ nI (kS j)
        · rw [if_pos v]
        · rw [if_neg v, if_pos rfl]
    | succ d ih =>
      intro i f hd hf
      obtain ⟨f, rfl⟩ : ∃ z, f = z + 1 := ⟨f - 1, by omega⟩
      have hi : i < (WQ (kO j)).length := by omega
      obtain ⟨m1, m2⟩ := k5 ⟨i, by omega⟩ hi
      have m2' : (WQ 9).getD (kS j + i) 0 ≠ 32 := m2
      have c2 : (WQ 9).getD (kS j + i) 0 < 128 := (chr_d ⟨9, by omega⟩ ⟨kS j + i, by omega⟩ (by show kS j + i < 49; omega)).2
      show ∃ f', _ ∧ F_M_key_25 N (L_M_key N f) (nI j) (nI (kS j)) (nI (kS j + i)) h = _
      unfold F_M_key_25
      rw [eChar (q := 9) (by omega) (by omega), bnd_some]
      dsimp only
      rw [show (32 : Int32) = nI 32 from rfl, if_neg (by rw [nN_inj (by omega) (by omega)]; exact m2'), show nI (kS j + i) + 1 = nI (kS j + (i + 1)) from nN_add _ 1]
      obtain ⟨f', a1, a2⟩ := ih (i + 1) f (by omega) (by omega)
      exact ⟨f', by omega, a2⟩
  have main : ∀ (d j f : Nat), j + d = 9 → 200 * d + 1 < f → (L_M_key N f).1 (nI j) (nI (kS j)) h = some (kyf B t d j, h) := by
    intro d
    induction d with
    | zero =>
      intro j f hd hf
      obtain ⟨f, rfl⟩ : ∃ z, f = z + 1 := ⟨f - 1, by omega⟩
      have : j = 9 := by omega
      subst this
      show F_M_key_14 N (L_M_key N f) (nI 9) (nI (kS 9)) h = _
      unfold F_M_key_14
      rw [eLen (q := 9) (by omega), bnd_some]
      dsimp only
      rw [if_pos (by decide)]
      rfl
    | succ d ih =>
      intro j f hd hf
      obtain ⟨f, rfl⟩ : ∃ z, f = z + 1 := ⟨f - 1, by omega⟩
      obtain ⟨k1, k2, k3, k4, k5⟩ := key_d ⟨j, by omega⟩
      have k2' : kS j + (WQ (kO j)).length + 1 = kS (j + 1) := k2
      have k3' : kS (j + 1) ≤ 49 := k3
      have l2 : (WQ (kO j)).length ≤ 49 := (len_d ⟨kO j, Nat.lt_of_lt_of_le k1 (by omega)⟩).2.2
      show F_M_key_14 N (L_M_key N f) (nI j) (nI (kS j)) h = _
      unfold F_M_key_14
      rw [eLen (q := 9) (by omega), bnd_some]
      dsimp only
      rw [l9, if_neg (by rw [nN_le (by omega) (by omega)]; omega)]
      obtain ⟨f', a1, a2⟩ := scan j (by omega) (WQ (kO j)).length 0 (f + 1) (by omega) (by omega)
      have a2' : F_M_key_25 N (L_M_key N f) (nI j) (nI (kS j)) (nI (kS j)) h = _ := a2
      rw [a2']
      show _ = some (if wdB B t = WQ (kO j) then nI j else kyf B t d (j + 1), h)
      unfold F_M_key_114
      by_cases w : wdB B t = WQ (kO j)
      · rw [if_pos w, if_neg (by decide), if_pos w]
      · rw [if_neg w, if_pos rfl, if_neg w, show nI j + 1 = nI (j + 1) from nN_add j 1, show nI (kS j + (WQ (kO j)).length) + 1 = nI (kS j + (WQ (kO j)).length + 1) from nN_add _ 1, k2']
        exact ih (j + 1) f' (by omega) (by omega)
  exact main 9 0 (N + 1) (by omega) (by omega)
/-- whether a token is a name -/
def nmd (B : Nat → Nat) (t : Nat × Nat × Nat × Nat) : Prop := t.1 = 2 ∧ t.2.2.1 ≤ t.2.1 + 8 ∧ ∀ q, q < 9 → ¬ isw B t q
theorem nmd_ky {B : Nat → Nat} {t : Nat × Nat × Nat × Nat} : (∀ q, q < 9 → ¬ isw B t q) ↔ ky B t = -1 := by
  constructor
  · intro h
    exact ky_no (fun j hj => h _ (key_d ⟨j, hj⟩).1)
  · intro e q hq w
    obtain ⟨j, hj⟩ := key_s ⟨q, hq⟩
    rw [show q = kO j from hj.symm] at w
    rw [ky_is j.isLt w] at e
    exact nI_n1 (by omega) e
theorem eIsName {N n : Nat} (hN : 100 < N) {B : Nat → Nat} {t : Nat × Nat × Nat × Nat} {h : MH} (x : CX n B h) (g : TG B n t) (k : CK h t) : (nmd B t → f_Reader_isName N h = some (1, h)) ∧ (¬ nmd B t → f_Reader_isName N h = some (0, h)) := by
  have n6 := x.1
  have g0 := g.1
  have g2 := g.2.2.1
  unfold f_Reader_isName
  rw [k.1]
  simp only [show (gI h 3 3 = 1) = (t.1 = 2) by rw [k.1, show (1 : Int32) = nI (kc 2) from rfl, kc_eq g0 2 (by omega)], show (nI (kc t.1) = 1) = (t.1 = 2) by rw [show (1 : Int32) = nI (kc 2) from rfl, kc_eq g0 2 (by omega)]]
  by_cases z : t.1 = 2
  case neg =>
    rw [if_neg z]
    exact ⟨fun w => absurd w.1 z, fun _ => rfl⟩
  obtain ⟨g3, g4⟩ := g2 (by omega)
  rw [if_pos z, k.2.2.1 (by omega), k.2.1, nN_sub g3]
  simp only [show (8 < nI (t.2.2.1 - t.2.1)) = (8 < t.2.2.1 - t.2.1) by rw [show (8 : Int32) = nI 8 from rfl, nN_lt (by omega) (by omega)]]
  by_cases y : 8 < t.2.2.1 - t.2.1
  · rw [if_pos y]
    exact ⟨fun w => by have := w.2.1; omega, fun _ => rfl⟩
  rw [if_neg y]
  by_cases w0 : isw B t 0
  · rw [wdS_y hN x g k (by omega) w0, bnd_some, if_neg (one_ne h)]; exact ⟨fun w => absurd w0 (w.2.2 0 (by omega)), fun _ => rfl⟩
  rw [wdS_n hN x g k (by omega) w0, bnd_some, if_pos (zer_eq h)]
  by_cases w1 : isw B t 1
  · rw [wdS_y hN x g k (by omega) w1, bnd_some, if_neg (one_ne h)]; exact ⟨fun w => absurd w1 (w.2.2 1 (by omega)), fun _ => rfl⟩
  rw [wdS_n hN x g k (by omega) w1, bnd_some, if_pos (zer_eq h)]
  by_cases w2 : isw B t 2
  · rw [wdS_y hN x g k (by omega) w2, bnd_some, if_neg (one_ne h)]; exact ⟨fun w => absurd w2 (w.2.2 2 (by omega)), fun _ => rfl⟩
  rw [wdS_n hN x g k (by omega) w2, bnd_some, if_pos (zer_eq h)]
  by_cases w3 : isw B t 3
  · rw [wdS_y hN x g k (by omega) w3, bnd_some, if_neg (one_ne h)]; exact ⟨fun w => absurd w3 (w.2.2 3 (by omega)), fun _ => rfl⟩
  rw [wdS_n hN x g k (by omega) w3, bnd_some, if_pos (zer_eq h)]
  by_cases w4 : isw B t 4
  · rw [wdS_y hN x g k (by omega) w4, bnd_some, if_neg (one_ne h)]; exact ⟨fun w => absurd w4 (w.2.2 4 (by omega)), fun _ => rfl⟩
  rw [wdS_n hN x g k (by omega) w4, bnd_some, if_pos (zer_eq h)]
  by_cases w5 : isw B t 5
  · rw [wdS_y hN x g k (by omega) w5, bnd_some, if_neg (one_ne h)]; exact ⟨fun w => absurd w5 (w.2.2 5 (by omega)), fun _ => rfl⟩
  rw [wdS_n hN x g k (by omega) w5, bnd_some, if_pos (zer_eq h)]
  by_cases w6 : isw B t 6
  · rw [wdS_y hN x g k (by omega) w6, bnd_some, if_neg (one_ne h)]; exact ⟨fun w => absurd w6 (w.2.2 6 (by omega)), fun _ => rfl⟩
  rw [wdS_n hN x g k (by omega) w6, bnd_some, if_pos (zer_eq h)]
  by_cases w7 : isw B t 7
  · rw [wdS_y hN x g k (by omega) w7, bnd_some, if_neg (one_ne h)]; exact ⟨fun w => absurd w7 (w.2.2 7 (by omega)), fun _ => rfl⟩
  rw [wdS_n hN x g k (by omega) w7, bnd_some, if_pos (zer_eq h)]
  by_cases w8 : isw B t 8
  · rw [wdS_y hN x g k (by omega) w8, bnd_some, if_neg (one_ne h)]; exact ⟨fun w => absurd w8 (w.2.2 8 (by omega)), fun _ => rfl⟩
  rw [wdS_n hN x g k (by omega) w8, bnd_some, if_pos (zer_eq h)]
  refine ⟨fun _ => rfl, fun w => absurd ⟨z, by omega, fun q hq => ?_⟩ w⟩
  have : q = 0 ∨ q = 1 ∨ q = 2 ∨ q = 3 ∨ q = 4 ∨ q = 5 ∨ q = 6 ∨ q = 7 ∨ q = 8 := by omega
  rcases this with rfl | rfl | rfl | rfl | rfl | rfl | rfl | rfl | rfl
  · exact w0
  · exact w1
  · exact w2
  · exact w3
  · exact w4
  · exact w5
  · exact w6
  · exact w7
  · exact w8
def nvf (B : Nat → Nat) (st : Nat) : Nat → Nat
  | 0 => 0
  | k + 1 => 256 * nvf B st k + B (st + k)
theorem nvf_lt {B : Nat → Nat} {st : Nat} : ∀ k, (∀ j, j < k + 1 → B (st + j) < 128) → nvf B st (k + 1) < 128 * 256 ^ k
  | 0, h => by
    have := h 0 (by omega)
    show 256 * 0 + B (st + 0) < 128 * 1
    omega
  | k + 1, h => by
    have a := nvf_lt k (fun j hj => h j (by omega))
    have b := h (k + 1) (by omega)
    show 256 * nvf B st (k + 1) + B (st + (k + 1)) < _
    rw [Nat.pow_succ]
    omega
def nv (B : Nat → Nat) (t : Nat × Nat × Nat × Nat) : Nat := nvf B t.2.1 (t.2.2.1 - t.2.1)
theorem nJ_shl {v b : Nat} (hv : v < 2 ^ 55) (hb : b < 256) : (nJ v <<< (Int32.toInt64 8 &&& 63)) ||| (nI b).toInt64 = nJ (256 * v + b) := by
  rw [nI_64 (by omega), show (Int32.toInt64 8 &&& 63) = (8 : Int64) from rfl, ← Int64.toBitVec_inj, Int64.toBitVec_or, Int64.toBitVec_shiftLeft]
  show (BitVec.ofNat 64 v <<< (BitVec.smod 8#64 64#64)) ||| BitVec.ofNat 64 b = BitVec.ofNat 64 (256 * v + b)
  rw [show BitVec.smod 8#64 64#64 = 8#64 by decide]
  apply BitVec.eq_of_toNat_eq
  rw [BitVec.toNat_or, BitVec.shiftLeft_eq', BitVec.toNat_shiftLeft, show (8#64).toNat = 8 from rfl, BitVec.toNat_ofNat, BitVec.toNat_ofNat, BitVec.toNat_ofNat, Nat.mod_eq_of_lt (show v < 2 ^ 64 by omega), Nat.mod_eq_of_lt (show b < 2 ^ 64 by omega), Nat.mod_eq_of_lt (show 256 * v + b < 2 ^ 64 by omega), Nat.mod_eq_of_lt (show v <<< 8 < 2 ^ 64 by rw [Nat.shiftLeft_eq]; omega), ← Nat.shiftLeft_add_eq_or_of_lt (show b < 2 ^ 8 by omega), Nat.shiftLeft_eq]
  omega
theorem ltr_lt : ∀ b : Fin 256, ltr b = true → 97 ≤ b.val ∧ b.val < 128 := by decide +kernel
theorem nv_lt {n : Nat} {B : Nat → Nat} {t : Nat × Nat × Nat × Nat} (hB : ∀ k, k < n → B k < 256) (g : TG B n t) (z : nmd B t) : nv B t < 9223372036854775808 ∧ ∀ j, j < t.2.2.1 - t.2.1 → 97 ≤ B (t.2.1 + j) ∧ B (t.2.1 + j) < 128 := by
  obtain ⟨g0, g1, g2, g3, g4, -⟩ := g
  obtain ⟨z1, z2, z3⟩ := z
  have a := g2 (by omega)
  have b := g3 (by omega) (by omega)
  have c : ∀ j, j < t.2.2.1 - t.2.1 → 97 ≤ B (t.2.1 + j) ∧ B (t.2.1 + j) < 128 := fun j hj => ltr_lt ⟨B (t.2.1 + j), hB _ (by omega)⟩ (g4 z1 _ (by omega) (by omega))
  refine ⟨?_, c⟩
  unfold nv
  obtain ⟨k, hk⟩ : ∃ k, t.2.2.1 - t.2.1 = k + 1 := ⟨t.2.2.1 - t.2.1 - 1, by omega⟩
  rw [hk]
  have l := nvf_lt (B := B) (st := t.2.1) k (fun j hj => (c j (by omega)).2)
  have p : 256 ^ k ≤ 256 ^ 7 := Nat.pow_le_pow_right (by omega) (by omega)
  have : (256 : Nat) ^ 7 = 72057594037927936 := by decide
  omega
theorem eNameM {N n : Nat} (hN : 2000 < N) {B : Nat → Nat} {t : Nat × Nat × Nat × Nat} {h : MH} (x : MX n B h) (g : TG B n t) (k : MK h t) : (nmd B t → f_M_nameHere N h = some (nJ (nv B t), h)) ∧ (¬ nmd B t → f_M_nameHere N h = some (-1, h)) := by
  have n6 := x.1
  have g0 := g.1
  have g2 := g.2.2.1
  unfold f_M_nameHere F_M_nameHere_0
  rw [k.1, show (2 : Int32) = nI 2 from rfl]
  simp only [nN_inj (show t.1 < 2147483648 by omega) (show 2 < 2147483648 by omega)]
  by_cases z : t.1 = 2
  case neg =>
    rw [if_neg z]
    exact ⟨fun w => absurd w.1 z, fun _ => rfl⟩
  obtain ⟨g3, g4⟩ := g2 (by omega)
  rw [if_pos z, k.2.2.1 (by omega), k.2.1, nN_sub g3]
  simp only [show (8 < nI (t.2.2.1 - t.2.1)) = (8 < t.2.2.1 - t.2.1) by rw [show (8 : Int32) = nI 8 from rfl, nN_lt (by omega) (by omega)]]
  by_cases y : 8 < t.2.2.1 - t.2.1
  · rw [if_pos y]
    exact ⟨fun w => by have := w.2.1; omega, fun _ => rfl⟩
  rw [if_neg y, eKey hN x g k, bnd_some]
  dsimp only
  by_cases w : ky B t = -1
  case neg =>
    rw [if_neg w]
    exact ⟨fun v => absurd (nmd_ky.mp v.2.2) w, fun _ => rfl⟩
  rw [if_pos w]
  have nmt : nmd B t := ⟨z, by omega, nmd_ky.mpr w⟩
  obtain ⟨nl, nc⟩ := nv_lt (fun k hk => (x.2.2 k hk).1) g nmt
  refine ⟨fun _ => ?_, fun v => absurd nmt v⟩
  have main : ∀ (d i f : Nat), i + d = t.2.2.1 - t.2.1 → d < f → L_M_nameHere N f (nJ (nvf B t.2.1 i)) (nI (t.2.1 + i)) h = some (nJ (nv B t), h) := by
    intro d
    induction d with
    | zero =>
      intro i f hd hf
      obtain ⟨f, rfl⟩ : ∃ z, f = z + 1 := ⟨f - 1, by omega⟩
      show F_M_nameHere_41 N (L_M_nameHere N f) _ _ h = _
      unfold F_M_nameHere_41 nv
      rw [k.2.2.1 (by omega), if_pos (by rw [nN_le (by omega) (by omega)]; omega), show t.2.2.1 - t.2.1 = i by omega]
    | succ d ih =>
      intro i f hd hf
      obtain ⟨f, rfl⟩ : ∃ z, f = z + 1 := ⟨f - 1, by omega⟩
      have b1 := (nc i (by omega)).2
      have av' : av n B (t.2.1 + i) = nI (B (t.2.1 + i)) := by unfold av; rw [if_pos (by omega)]
      have v55 : nvf B t.2.1 i < 2 ^ 55 := by
        rcases Nat.eq_zero_or_pos i with e | e
        · rw [e]; show 0 < 2 ^ 55; decide
        · obtain ⟨q, hq⟩ : ∃ q, i = q + 1 := ⟨i - 1, by omega⟩
          rw [hq]
          have l := nvf_lt (B := B) (st := t.2.1) q (fun j hj => (nc j (by omega)).2)
          have p : 256 ^ q ≤ 256 ^ 6 := Nat.pow_le_pow_right (by omega) (by omega)
          have : (256 : Nat) ^ 6 = 281474976710656 := by decide
          omega
      show F_M_nameHere_41 N (L_M_nameHere N f) _ _ h = _
      unfold F_M_nameHere_41
      rw [k.2.2.1 (by omega), if_neg (by rw [nN_le (by omega) (by omega)]; omega), eAt x (by omega), bnd_some, av']
      dsimp only
      rw [nJ_shl v55 (by omega), show nI (t.2.1 + i) + 1 = nI (t.2.1 + (i + 1)) from nN_add _ 1]
      exact ih (i + 1) f (by omega) (by omega)
  have := main (t.2.2.1 - t.2.1) 0 (N + 1) (by omega) (by omega)
  show F_M_nameHere_41 N (L_M_nameHere N N) 0 (gI h 68 11) h = _
  rw [k.2.1]
  exact this
