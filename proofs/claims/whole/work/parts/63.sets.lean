/-! SLIPS: sets of marks, without -/
theorem FT_ex (P : PB) (x : Nat → Nat) (sm : Nat) : ∀ m, m ≤ 8 → ∃ v, FT P x sm m v
  | 0, _ => ⟨0, by omega, fun k hk => by simp⟩
  | m + 1, hm => by
    obtain ⟨v, v1, v2⟩ := FT_ex P x sm m (by omega)
    by_cases c : sm.testBit m = true ∧ okM P m x
    · refine ⟨v ||| 2 ^ m, Nat.or_lt_two_pow (n := 8) v1 (Nat.pow_lt_pow_right (by omega) (by omega)), fun k hk => ?_⟩
      rw [tb_or2, Bool.or_eq_true, decide_eq_true_eq, v2 k hk]
      constructor
      · rintro (⟨a, b⟩ | a)
        · exact ⟨by omega, b⟩
        · subst a; exact ⟨by omega, c⟩
      · rintro ⟨a, b⟩
        by_cases z : m = k
        · exact .inr z
        · exact .inl ⟨by omega, b⟩
    · refine ⟨v, v1, fun k hk => ?_⟩
      rw [v2 k hk]
      constructor
      · rintro ⟨a, b⟩; exact ⟨by omega, b⟩
      · rintro ⟨a, b⟩
        refine ⟨?_, b⟩
        rcases Nat.lt_or_ge k m with z | z
        · exact z
        · have : k = m := by omega
          subst this; exact absurd b c
theorem FT_un {P : PB} {x : Nat → Nat} {sm m v w : Nat} (h1 : FT P x sm m v) (h2 : FT P x sm m w) : v = w := set_ext h1.1 h2.1 (fun k hk => by rw [Bool.eq_iff_iff, h1.2 k hk, h2.2 k hk])
def tbS (h : MH) (C : Nat → Prop) : Prop := ∀ a, a < 256 → (gI h 106 a = 1 ∧ C a) ∨ (gI h 106 a = 0 ∧ ¬ C a)
def Cm (C : Nat → Prop) (m a : Nat) : Prop := ∃ b, b < 256 ∧ C b ∧ (∀ k, k < 8 → a.testBit k = true → b.testBit k = true) ∧ ∀ k, m ≤ k → k < 8 → b.testBit k = a.testBit k
theorem Cm_has {C : Nat → Prop} {m a : Nat} (hm : m < 8) (h : a.testBit m = true) : Cm C (m + 1) a ↔ Cm C m a := by
  constructor
  · rintro ⟨b, b1, b2, b3, b4⟩
    refine ⟨b, b1, b2, b3, fun k k1 k2 => ?_⟩
    by_cases z : k = m
    · subst z; rw [h]; exact b3 k k2 h
    · exact b4 k (by omega) k2
  · rintro ⟨b, b1, b2, b3, b4⟩
    exact ⟨b, b1, b2, b3, fun k k1 k2 => b4 k (by omega) k2⟩
theorem Cm_not {C : Nat → Prop} {m a : Nat} (hm : m < 8) (h : a.testBit m = false) : Cm C (m + 1) a ↔ Cm C m a ∨ Cm C m (a ||| 2 ^ m) := by
  constructor
  · rintro ⟨b, b1, b2, b3, b4⟩
    cases w : b.testBit m
    · refine .inl ⟨b, b1, b2, b3, fun k k1 k2 => ?_⟩
      by_cases z : k = m
      · subst z; rw [h, w]
      · exact b4 k (by omega) k2
    · refine .inr ⟨b, b1, b2, fun k k1 k2 => ?_, fun k k1 k2 => ?_⟩
      · rw [tb_or2, Bool.or_eq_true, decide_eq_true_eq] at k2
        rcases k2 with y | y
        · exact b3 k k1 y
        · subst y; exact w
      · rw [tb_or2]
        by_cases z : m = k
        · subst z; simp [w]
        · rw [b4 k (by omega) k2]; simp [z]
  · rintro (⟨b, b1, b2, b3, b4⟩ | ⟨b, b1, b2, b3, b4⟩)
    · exact ⟨b, b1, b2, b3, fun k k1 k2 => b4 k (by omega) k2⟩
    · refine ⟨b, b1, b2, fun k k1 k2 => b3 k k1 (by rw [tb_or2, k2]; rfl), fun k k1 k2 => ?_⟩
      rw [b4 k (by omega) k2, tb_or2]
      have : ¬ m = k := by omega
      simp [this]
theorem or_up {a m : Nat} (h : a.testBit m = false) : a + 1 ≤ a ||| 2 ^ m := by
  have h1 : a ≤ a ||| 2 ^ m := Nat.left_le_or
  have h2 : a ≠ a ||| 2 ^ m := fun e => by
    have := congrArg (fun z => z.testBit m) e
    simp only [tb_or2, h] at this
    simp at this
  omega
theorem lSets3 {N : Nat} {C : Nat → Prop} {h0 : MH} : ∀ (d m f : Nat) (h : MH), m + d = 8 → 300 * d < f → Fr wC h0 h → tbS h (Cm C m) → ∃ h', (L_M_findSets N f).2.2.1 (nI m) h = some h' ∧ Fr wC h0 h' ∧ tbS h' (Cm C 8) := by
  intro d
  induction d with
  | zero =>
    intro m f h hd hf fr tb
    obtain ⟨f, rfl⟩ : ∃ z, f = z + 1 := ⟨f - 1, by omega⟩
    have : m = 8 := by omega
    subst this
    refine ⟨h, ?_, fr, tb⟩
    show F_M_findSets_72 N (L_M_findSets N f) (nI 8) h = _
    unfold F_M_findSets_72
    rw [if_pos (by decide)]
  | succ d ih =>
    intro m f h hd hf fr tb
    obtain ⟨f, rfl⟩ : ∃ z, f = z + 1 := ⟨f - 1, by omega⟩
    show ∃ h', F_M_findSets_72 N (L_M_findSets N f) (nI m) h = _ ∧ _
    unfold F_M_findSets_72
    rw [L8, if_neg (by rw [nN_le (by omega) (by omega)]; omega)]
    have inner : ∀ (e a f : Nat) (h : MH), a + e = 256 → 300 * d + e + 1 < f → Fr wC h0 h → (∀ b, b < 256 → (gI h 106 b = 1 ∧ Cm C (if b < a then m + 1 else m) b) ∨ (gI h 106 b = 0 ∧ ¬ Cm C (if b < a then m + 1 else m) b)) → ∃ h', (L_M_findSets N f).2.2.2 (nI m) (nI a) h = some h' ∧ Fr wC h0 h' ∧ tbS h' (Cm C 8) := by
      intro e
      induction e with
      | zero =>
        intro a f h he hf fr tb
        obtain ⟨f, rfl⟩ : ∃ z, f = z + 1 := ⟨f - 1, by omega⟩
        have : a = 256 := by omega
        subst this
        show ∃ h', F_M_findSets_80 N (L_M_findSets N f) (nI m) (nI 256) h = _ ∧ _
        unfold F_M_findSets_80
        rw [if_pos (by decide), show nI m + 1 = nI (m + 1) from nN_add m 1]
        exact ih (m + 1) f h (by omega) (by omega) fr (fun b hb => by have := tb b hb; rw [if_pos hb] at this; exact this)
      | succ e ihe =>
        intro a f h he hf fr tb
        obtain ⟨f, rfl⟩ : ∃ z, f = z + 1 := ⟨f - 1, by omega⟩
        show ∃ h', F_M_findSets_80 N (L_M_findSets N f) (nI m) (nI a) h = _ ∧ _
        unfold F_M_findSets_80
        have bd := (bit_d ⟨a, by omega⟩ ⟨m, by omega⟩).1
        have bd' : (nI a >>> (nI m &&& 31)) &&& 1 = 0 ↔ a.testBit m = false := bd
        rw [show (256 : Int32) = nI 256 from rfl, if_neg (by rw [nN_le (by omega) (by omega)]; omega), show nI a + 1 = nI (a + 1) from nN_add a 1]
        dsimp only
        have ta := tb a (by omega)
        rw [if_neg (Nat.lt_irrefl a)] at ta
        -- nothing changes at a
        have keep : (Cm C (m + 1) a ↔ Cm C m a) → ∃ h', (L_M_findSets N f).2.2.2 (nI m) (nI (a + 1)) h = some h' ∧ Fr wC h0 h' ∧ tbS h' (Cm C 8) := fun q => ihe (a + 1) f h (by omega) (by omega) fr (fun b hb => by
          by_cases z : b = a
          · subst z
            rw [if_pos (by omega), q]; exact ta
          · have := tb b hb
            by_cases y : b < a
            · rw [if_pos y] at this
              rw [if_pos (by omega)]; exact this
            · rw [if_neg y] at this
              rw [if_neg (by omega)]; exact this)
        by_cases w : a.testBit m = false
        case neg =>
          rw [if_neg (fun y => w (bd'.mp y))]
          exact keep (Cm_has (by omega) (by simpa using w))
        have up := or_up w
        have lt : a ||| 2 ^ m < 256 := Nat.or_lt_two_pow (n := 8) (by omega) (Nat.pow_lt_pow_right (by omega) (by omega))
        rw [if_pos (bd'.mpr w), shl_n (by omega), nI_or, if_pos (by rw [inB_nI (by omega)]; exact lt), iN_nI (by omega)]
        have tu := tb (a ||| 2 ^ m) lt
        rw [if_neg (show ¬ (a ||| 2 ^ m) < a by omega)] at tu
        have cn' := Cm_not (C := C) (show m < 8 by omega) w
        rcases tu with ⟨t1, t2⟩ | ⟨t1, t2⟩
        · rw [if_neg (by rw [t1]; decide), if_pos (by rw [inB_nI (by omega)]; omega), iN_nI (by omega)]
          refine ihe (a + 1) f _ (by omega) (by omega) (fr.sI 106 a _ rfl) (fun b hb => ?_)
          rw [gI_sI]
          by_cases z : b = a
          · subst z
            rw [if_pos ⟨rfl, rfl⟩, if_pos (by omega)]
            exact .inl ⟨by decide, cn'.mpr (.inr t2)⟩
          · rw [if_neg (by omega)]
            have := tb b hb
            by_cases y : b < a
            · rw [if_pos y] at this
              rw [if_pos (by omega)]; exact this
            · rw [if_neg y] at this
              rw [if_neg (by omega)]; exact this
        · rw [if_pos t1]
          exact keep ⟨fun q => by rcases cn'.mp q with y | y; exact y; exact absurd y t2, fun q => cn'.mpr (.inl q)⟩
    exact inner 256 0 (f + 1) h (by omega) (by omega) fr (fun b hb => by rw [if_neg (Nat.not_lt_zero _)]; exact tb b hb)
def CB (P : PB) (s mv B b : Nat) : Prop := ∃ k, k < B ∧ okS P s (dg P.1 k) ∧ FT P (dg P.1 k) mv P.2.1 b
theorem lSets2 {N : Nat} (hN : 1000 < N) {P : PB} {s mv : Nat} (hs9 : s ≤ 9) (hmv : mv < 256) {h0 : MH} (p0 : PM P h0) (hsmooth : gI h0 68 66 = nI s) (h67 : gI h0 68 67 = nI mv) : ∀ (d B f : Nat) (h : MH), B + d = 10 ^ P.1 → 3000 + d < f → Fr wC h0 h → tbS h (CB P s mv B) → ∃ h', (L_M_findSets N f).2.1 (nI (10 ^ P.1)) (nI B) h = some h' ∧ Fr wC h0 h' ∧ tbS h' (Cm (CB P s mv (10 ^ P.1)) 8) := by
  have hten := ten6 p0.1
  intro d
  induction d with
  | zero =>
    intro B f h hd hf fr tb
    obtain ⟨f, rfl⟩ : ∃ z, f = z + 1 := ⟨f - 1, by omega⟩
    have : B = 10 ^ P.1 := by omega
    subst this
    show ∃ h', F_M_findSets_29 N (L_M_findSets N f) _ _ h = _ ∧ _
    unfold F_M_findSets_29
    rw [if_pos (by rw [nN_le (by omega) (by omega)]; omega)]
    exact lSets3 (N := N) 8 0 (f + 1) h (by omega) (by omega) fr (fun a ha => by
      have e : Cm (CB P s mv (10 ^ P.1)) 0 a ↔ CB P s mv (10 ^ P.1) a := by
        constructor
        · rintro ⟨b, b1, b2, b3, b4⟩
          rw [← set_ext b1 ha (fun k hk => b4 k (by omega) hk)]; exact b2
        · intro q; exact ⟨a, ha, q, fun _ _ y => y, fun _ _ _ => rfl⟩
      rw [e]; exact tb a ha)
  | succ d ih =>
    intro B f h hd hf fr tb
    obtain ⟨f, rfl⟩ : ∃ z, f = z + 1 := ⟨f - 1, by omega⟩
    show ∃ h', F_M_findSets_29 N (L_M_findSets N f) _ _ h = _ ∧ _
    unfold F_M_findSets_29
    have ph := PM_fr p0 fr
    obtain ⟨x1, a1, a2, a3⟩ := eLay (N := N) (by omega) ph (k := B) (by omega)
    have frx : Fr wC h0 x1 := fr.trans (a2.mono (fun c k q => by simp [wC] at q; simp [w103]; omega))
    have px := PM_fr p0 frx
    obtain ⟨w, b1, b2, b3⟩ := eBend (N := N) (by omega) px a3 (fun c _ => dg9 P.1 B c)
    obtain ⟨v, d1, d2⟩ := eFit (N := N) (by omega) px a3 (fun c => dg9 P.1 B c) hmv
    rw [if_neg (by rw [nN_le (by omega) (by omega)]; omega), a1, bnd_some, b1, bnd_some]
    dsimp only
    rw [frx.i 68 66 rfl, hsmooth, frx.i 68 67 rfl, h67, show nI B + 1 = nI (B + 1) from nN_add B 1]
    have tb1 : tbS x1 (CB P s mv B) := fun a ha => by rw [a2.i 106 _ rfl]; exact tb a ha
    by_cases c1 : nI s < nI w
    · rw [if_pos c1]
      rw [nN_lt (by omega) (by omega)] at c1
      refine ih (B + 1) f x1 (by omega) (by omega) frx (fun a ha => ?_)
      have e : CB P s mv (B + 1) a ↔ CB P s mv B a := by
        constructor
        · rintro ⟨k, k1, k2, k3⟩
          by_cases z : k = B
          · subst z; have := (b3 s).mpr k2; omega
          · exact ⟨k, by omega, k2, k3⟩
        · rintro ⟨k, k1, k2⟩; exact ⟨k, by omega, k2⟩
      rw [e]; exact tb1 a ha
    · rw [if_neg c1]
      rw [nN_lt (by omega) (by omega)] at c1
      have hv := d2.1
      rw [d1, bnd_some]
      dsimp only
      rw [if_pos (by rw [inB_nI (by omega)]; exact hv), iN_nI (by omega)]
      refine ih (B + 1) f _ (by omega) (by omega) (frx.sI 106 v _ rfl) (fun a ha => ?_)
      rw [gI_sI]
      by_cases z : a = v
      · rw [if_pos ⟨rfl, z⟩]
        exact .inl ⟨by decide, B, by omega, (b3 s).mp (by omega), by rw [z]; exact d2⟩
      · rw [if_neg (by omega)]
        have e : CB P s mv (B + 1) a ↔ CB P s mv B a := by
          constructor
          · rintro ⟨k, k1, k2, k3⟩
            by_cases y : k = B
            · subst y; exact absurd (FT_un k3 d2) z
            · exact ⟨k, by omega, k2, k3⟩
          · rintro ⟨k, k1, k2⟩; exact ⟨k, by omega, k2⟩
        rw [e]; exact tb1 a ha
theorem eFindSets {N : Nat} (hN : 20000000 < N) {P : PB} {s mv : Nat} (hs9 : s ≤ 9) (hmv : mv < 256) {h0 : MH} (p0 : PM P h0) (hsmooth : gI h0 68 66 = nI s) (h67 : gI h0 68 67 = nI mv) : ∃ h', f_M_findSets N h0 = some h' ∧ Fr wC h0 h' ∧ tbS h' (Cm (CB P s mv (10 ^ P.1)) 8) := by
  have hten := ten6 p0.1
  have main : ∀ (d a f : Nat) (h : MH), a + d = 256 → 2000000 + d < f → Fr wC h0 h → (∀ b, b < a → gI h 106 b = 0) → ∃ h', (L_M_findSets N f).1 (nI a) h = some h' ∧ Fr wC h0 h' ∧ tbS h' (Cm (CB P s mv (10 ^ P.1)) 8) := by
    intro d
    induction d with
    | zero =>
      intro a f h hd hf fr z
      obtain ⟨f, rfl⟩ : ∃ z, f = z + 1 := ⟨f - 1, by omega⟩
      have : a = 256 := by omega
      subst this
      show ∃ h', F_M_findSets_2 N (L_M_findSets N f) (nI 256) h = some h' ∧ _
      unfold F_M_findSets_2
      rw [if_pos (by decide), eRows (N := N) (by omega) (PM_fr p0 fr), bnd_some]
      exact lSets2 (N := N) (by omega) hs9 hmv p0 hsmooth h67 (10 ^ P.1) 0 (f + 1) h (by omega) (by omega) fr (fun a ha => .inr ⟨z a ha, fun ⟨k, k1, _⟩ => Nat.not_lt_zero _ k1⟩)
    | succ d ih =>
      intro a f h hd hf fr z
      obtain ⟨f, rfl⟩ : ∃ z, f = z + 1 := ⟨f - 1, by omega⟩
      show ∃ h', F_M_findSets_2 N (L_M_findSets N f) (nI a) h = some h' ∧ _
      unfold F_M_findSets_2
      rw [show (256 : Int32) = nI 256 from rfl, if_neg (by rw [nN_le (by omega) (by omega)]; omega), if_pos (by rw [inB_nI (by omega)]; omega), iN_nI (by omega), show nI a + 1 = nI (a + 1) from nN_add a 1]
      refine ih (a + 1) f _ (by omega) (by omega) (fr.sI 106 a _ rfl) (fun b hb => ?_)
      rw [gI_sI]
      by_cases y : b = a
      · rw [if_pos ⟨rfl, y⟩]; decide
      · rw [if_neg (by omega)]; exact z b (by omega)
  exact main 256 0 (N + 1) h0 (by omega) (by omega) Fr.rfl (fun b hb => absurd hb (Nat.not_lt_zero _))
theorem Cm_vld {P : PB} {s mv a : Nat} (p2 : P.2.1 ≤ 8) (hsub : ∀ k, a.testBit k = true → mv.testBit k = true) (hm : ∀ k, P.2.1 ≤ k → mv.testBit k = false) : Cm (CB P s mv (10 ^ P.1)) 8 a ↔ ∃ k, k < 10 ^ P.1 ∧ vld P s a k := by
  constructor
  · rintro ⟨b, b1, ⟨k, k1, k2, k3⟩, b3, -⟩
    exact ⟨k, k1, k2, fun j hj hb => ((k3.2 j (by omega)).mp (b3 j (by omega) hb)).2.2⟩
  · rintro ⟨k, k1, k2, k3⟩
    obtain ⟨v, hv⟩ := FT_ex P (dg P.1 k) mv P.2.1 p2
    refine ⟨v, hv.1, ⟨k, k1, k2, hv⟩, fun j hj hb => ?_, fun j j1 j2 => by omega⟩
    have mb := hsub j hb
    have jm : j < P.2.1 := by
      rcases Nat.lt_or_ge j P.2.1 with z | z
      · exact z
      · rw [hm j z] at mb; exact absurd mb (by decide)
    exact (hv.2 j hj).mpr ⟨jm, mb, k3 j jm hb⟩
