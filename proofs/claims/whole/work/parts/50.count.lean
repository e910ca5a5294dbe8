/-! SLIPS: the reference counts them -/
def okA (P : PB) (s sm : Nat) (x : Nat → Nat) : Prop := okS P s x ∧ ∀ k, k < P.2.1 → sm.testBit k = true → okM P k x
def vld (P : PB) (s sm : Nat) (k : Nat) : Prop := okA P s sm (dg P.1 k)
noncomputable def cn (f : Nat → Prop) : Nat → Nat
  | 0 => 0
  | k + 1 => cn f k + @ite _ (f k) (Classical.propDecidable _) 1 0
theorem cn_yes {f : Nat → Prop} {k : Nat} (h : f k) : cn f (k + 1) = cn f k + 1 := by
  show cn f k + @ite _ (f k) (Classical.propDecidable _) 1 0 = _
  rw [@if_pos _ (Classical.propDecidable _) h]
theorem cn_no {f : Nat → Prop} {k : Nat} (h : ¬ f k) : cn f (k + 1) = cn f k := by
  show cn f k + @ite _ (f k) (Classical.propDecidable _) 1 0 = _
  rw [@if_neg _ (Classical.propDecidable _) h]; rfl
theorem cn_le (f : Nat → Prop) : ∀ k, cn f k ≤ k
  | 0 => Nat.le_refl _
  | k + 1 => by
    have := cn_le f k
    by_cases h : f k
    · rw [cn_yes h]; omega
    · rw [cn_no h]; omega
theorem cn_zero {f : Nat → Prop} : ∀ {k : Nat}, cn f k = 0 ↔ ∀ i, i < k → ¬ f i
  | 0 => ⟨fun _ i hi => by omega, fun _ => rfl⟩
  | k + 1 => by
    by_cases h : f k
    · rw [cn_yes h]
      exact ⟨fun q => by omega, fun q => absurd h (q k (by omega))⟩
    · rw [cn_no h, cn_zero]
      constructor
      · intro q i hi
        by_cases c : i = k
        · rw [c]; exact h
        · exact q i (by omega)
      · intro q i hi; exact q i (by omega)
theorem cn_congr {f g : Nat → Prop} : ∀ {k : Nat}, (∀ i, i < k → (f i ↔ g i)) → cn f k = cn g k
  | 0, _ => rfl
  | k + 1, h => by
    have ih := cn_congr (f := f) (g := g) (k := k) (fun i hi => h i (by omega))
    by_cases q : f k
    · rw [cn_yes q, cn_yes ((h k (by omega)).mp q), ih]
    · rw [cn_no q, cn_no (fun z => q ((h k (by omega)).mpr z)), ih]
theorem cn_add (f : Nat → Prop) (a : Nat) : ∀ b, cn f (a + b) = cn f a + cn (fun i => f (a + i)) b
  | 0 => rfl
  | b + 1 => by
    rw [← Nat.add_assoc]
    by_cases q : f (a + b)
    · rw [cn_yes q, cn_yes (f := fun i => f (a + i)) q, cn_add f a b]; omega
    · rw [cn_no q, cn_no (f := fun i => f (a + i)) q, cn_add f a b]
theorem cn_mono (f : Nat → Prop) {a b : Nat} (h : a ≤ b) : cn f a ≤ cn f b := by
  obtain ⟨c, rfl⟩ : ∃ c, b = a + c := ⟨b - a, by omega⟩
  rw [cn_add]; omega
/-- the first of them -/
def fst1 (f : Nat → Prop) (k : Nat) : Prop := f k ∧ ∀ i, i < k → ¬ f i
def MCt (P : PB) (s sm set : Nat) (h : MH) (B : Nat) : Prop :=
  (∀ q, q < 55 → gJ h 107 q = nJ (cn (fun k => vld P s sm k ∧ sm6 set (dg P.1 k) P.1 = q) B)) ∧ (0 < cn (vld P s sm) B → ∃ k0, k0 < B ∧ fst1 (vld P s sm) k0 ∧ ∀ c, c < P.1 → gI h 108 c = nI (dg P.1 k0 c))
theorem dg9 (n k : Nat) : ∀ c, dg n k c < 10 := fun c => dg_lt n k c
theorem ten6 {n : Nat} (h : n ≤ 6) : 10 ^ n ≤ 1000000 := Nat.pow_le_pow_right (n := 10) (by omega) h
theorem nJ_add (a b : Nat) : nJ a + nJ b = nJ (a + b) := (Int64.ofNat_add a b).symm
theorem FT_all {P : PB} {x : Nat → Nat} {sm w : Nat} (hsm : sm < 256) (hm : ∀ k, P.2.1 ≤ k → sm.testBit k = false) (hw : FT P x sm P.2.1 w) : w = sm ↔ ∀ k, k < P.2.1 → sm.testBit k = true → okM P k x := by
  constructor
  · intro e k hk hb
    by_cases k8 : k < 8
    · rw [← e] at hb; exact ((hw.2 k k8).mp hb).2.2
    · rw [Nat.testBit_lt_two_pow (Nat.lt_of_lt_of_le hsm (Nat.pow_le_pow_right (n := 2) (i := 8) (by omega) (by omega)))] at hb; cases hb
  · intro h
    refine set_ext hw.1 hsm (fun k hk => ?_)
    rw [Bool.eq_iff_iff, hw.2 k hk]
    constructor
    · rintro ⟨a, b, c⟩; exact b
    · intro b
      have km : k < P.2.1 := by
        rcases Nat.lt_or_ge k P.2.1 with q | q
        · exact q
        · rw [hm k q] at b; cases b
      exact ⟨km, b, h k km b⟩
theorem lCount {N : Nat} (hN : 1000 < N) {P : PB} {s sm set : Nat} (hs9 : s ≤ 9) (hsm : sm < 256) (hm : ∀ k, P.2.1 ≤ k → sm.testBit k = false) (hset : set < 256) {h0 : MH} (p0 : PM P h0) (hsmooth : gI h0 68 66 = nI s) : ∀ (d B f : Nat) (h : MH), B + d = 10 ^ P.1 → 10 * d < f → Fr wC h0 h → MCt P s sm set h B →
    ∃ h', (L_M_count N f).2.1 (nI sm) (nI set) (nJ (cn (vld P s sm) B)) (nI (10 ^ P.1)) (nI B) h = some (nJ (cn (vld P s sm) (10 ^ P.1)), h') ∧ Fr wC h0 h' ∧ MCt P s sm set h' (10 ^ P.1) := by
  have hten := ten6 p0.1
  intro d
  induction d with
  | zero =>
    intro B f h hd hf fr mc
    obtain ⟨f, rfl⟩ : ∃ z, f = z + 1 := ⟨f - 1, by omega⟩
    have : B = 10 ^ P.1 := by omega
    subst this
    refine ⟨h, ?_, fr, mc⟩
    show F_M_count_35 N (L_M_count N f) _ _ _ _ _ h = _
    unfold F_M_count_35
    rw [if_pos (by rw [nN_le (by omega) (by omega)]; omega)]
  | succ d ih =>
    intro B f h hd hf fr mc
    obtain ⟨f, rfl⟩ : ∃ z, f = z + 1 := ⟨f - 1, by omega⟩
    show ∃ h', F_M_count_35 N (L_M_count N f) (nI sm) (nI set) (nJ (cn (vld P s sm) B)) (nI (10 ^ P.1)) (nI B) h = some (nJ (cn (vld P s sm) (10 ^ P.1)), h') ∧ _
    unfold F_M_count_35
    have ph := PM_fr p0 fr
    obtain ⟨x1, a1, a2, a3⟩ := eLay (N := N) (by omega) ph (k := B) (by omega)
    have frx : Fr wC h0 x1 := fr.trans (a2.mono (fun c k q => by simp [wC] at q; simp [w103]; omega))
    have px := PM_fr p0 frx
    obtain ⟨w, b1, b2, b3⟩ := eBend (N := N) (by omega) px a3 (fun c _ => dg9 P.1 B c)
    rw [if_neg (by rw [nN_le (by omega) (by omega)]; omega), a1, bnd_some, b1, bnd_some]
    dsimp only
    rw [frx.i 68 66 rfl, hsmooth, show nI B + 1 = nI (B + 1) from nN_add B 1]
    have mcx : MCt P s sm set x1 B := ⟨fun q hq => by rw [a2.j 107 _ rfl]; exact mc.1 q hq, fun z => by
      obtain ⟨k0, k1, k2, k3⟩ := mc.2 z
      exact ⟨k0, k1, k2, fun c hc => by rw [a2.i 108 _ rfl]; exact k3 c hc⟩⟩
    have skip : ¬ vld P s sm B → ∀ f', 10 * d < f' → ∃ h', (L_M_count N f').2.1 (nI sm) (nI set) (nJ (cn (vld P s sm) B)) (nI (10 ^ P.1)) (nI (B + 1)) x1 = some (nJ (cn (vld P s sm) (10 ^ P.1)), h') ∧ Fr wC h0 h' ∧ MCt P s sm set h' (10 ^ P.1) := by
      intro nv f' hf'
      have := ih (B + 1) f' x1 (by omega) hf' frx ⟨fun q hq => by rw [cn_no (fun z => nv z.1)]; exact mcx.1 q hq, fun z => by
        rw [cn_no nv] at z
        obtain ⟨k0, k1, k2, k3⟩ := mcx.2 z
        exact ⟨k0, by omega, k2, k3⟩⟩
      rw [cn_no nv] at this
      exact this
    by_cases c1 : nI s < nI w
    · rw [if_pos c1]
      rw [nN_lt (by omega) (by omega)] at c1
      exact skip (fun z => by have := (b3 s).mpr z.1; omega) f (by omega)
    · rw [if_neg c1]
      rw [nN_lt (by omega) (by omega)] at c1
      obtain ⟨v, d1, d2⟩ := eFit (N := N) (by omega) px a3 (fun c => dg9 P.1 B c) hsm
      rw [d1, bnd_some]
      dsimp only
      have ev : (nI v = nI sm) = (v = sm) := nN_inj (by have := d2.1; omega) (by omega)
      simp only [ev]
      by_cases c2 : v = sm
      case neg =>
        rw [if_neg c2]
        exact skip (fun z => c2 ((FT_all hsm hm d2).mpr z.2)) f (by omega)
      rw [if_pos c2]
      have yes : vld P s sm B := ⟨(b3 s).mp (by omega), (FT_all hsm hm d2).mp c2⟩
      -- the sum's count, then on
      have fin : ∀ (y : MH) (f' : Nat), 10 * d < f' → Fr wC h0 y → X3 y P.1 (dg P.1 B) → (∀ q, q < 55 → gJ y 107 q = nJ (cn (fun k => vld P s sm k ∧ sm6 set (dg P.1 k) P.1 = q) B)) → (∃ k0, k0 < B + 1 ∧ fst1 (vld P s sm) k0 ∧ ∀ c, c < P.1 → gI y 108 c = nI (dg P.1 k0 c)) →
          ∃ h', F_M_count_109 N (L_M_count N f') (nI sm) (nI set) (nJ (cn (vld P s sm) B)) (nI (10 ^ P.1)) (nI B) y = some (nJ (cn (vld P s sm) (10 ^ P.1)), h') ∧ Fr wC h0 h' ∧ MCt P s sm set h' (10 ^ P.1) := by
        intro y f' hf' fy xy by' fi
        unfold F_M_count_109
        have hsum := sm6_le (set := set) (x := dg P.1 B) (fun c => dg9 P.1 B c) P.1
        have p1 := p0.1
        rw [eSum (N := N) (by omega) (PM_fr p0 fy) xy (fun c => dg9 P.1 B c) hset, bnd_some]
        dsimp only
        rw [if_pos (by rw [inB_nI (by omega)]; omega), if_pos (by rw [inB_nI (by omega)]; omega), iN_nI (by omega), by' _ (by omega), show (1 : Int64) = nJ 1 from rfl, nJ_add, nJ_add, show nI B + 1 = nI (B + 1) from nN_add B 1]
        have := ih (B + 1) f' (sJ y 107 (sm6 set (dg P.1 B) P.1) (nJ (cn (fun k => vld P s sm k ∧ sm6 set (dg P.1 k) P.1 = sm6 set (dg P.1 B) P.1) B + 1))) (by omega) hf' (fy.sJ 107 _ _ rfl) ⟨fun q hq => by
          rw [gJ_sJ]
          by_cases c : q = sm6 set (dg P.1 B) P.1
          · rw [if_pos ⟨rfl, c⟩, c, cn_yes (f := fun k => vld P s sm k ∧ sm6 set (dg P.1 k) P.1 = sm6 set (dg P.1 B) P.1) ⟨yes, rfl⟩]
          · rw [if_neg (by omega), cn_no (fun z => c z.2.symm)]; exact by' q hq, fun _ => fi⟩
        rw [cn_yes yes] at this
        exact this
      simp only [cmp0]
      have c1000 := cn_le (vld P s sm) B
      have e0 : (nJ (cn (vld P s sm) B) = 0) = (cn (vld P s sm) B = 0) := nJ_inj (b := 0) (by omega) (by omega)
      simp only [e0]
      by_cases c3 : cn (vld P s sm) B = 0
      case neg =>
        rw [if_neg c3]
        obtain ⟨k0, k1, k2, k3⟩ := mcx.2 (by omega)
        exact fin x1 f (by omega) frx a3 mcx.1 ⟨k0, by omega, k2, k3⟩
      rw [if_pos c3]
      have firsts : ∀ (e c f' : Nat) (y : MH), c + e = P.1 → 10 * d + 1 + e < f' → Fr wC h0 y → X3 y P.1 (dg P.1 B) → (∀ q, q < 55 → gJ y 107 q = nJ (cn (fun k => vld P s sm k ∧ sm6 set (dg P.1 k) P.1 = q) B)) → (∀ i, i < c → gI y 108 i = nI (dg P.1 B i)) →
          ∃ h', (L_M_count N f').2.2 (nI sm) (nI set) (nJ (cn (vld P s sm) B)) (nI (10 ^ P.1)) (nI B) (nI c) y = some (nJ (cn (vld P s sm) (10 ^ P.1)), h') ∧ Fr wC h0 h' ∧ MCt P s sm set h' (10 ^ P.1) := by
        intro e
        induction e with
        | zero =>
          intro c f' y hc hf' fy xy by' fi
          obtain ⟨f', rfl⟩ : ∃ z, f' = z + 1 := ⟨f' - 1, by omega⟩
          have p1 := p0.1
          show ∃ h', F_M_count_80 N (L_M_count N f') _ _ _ _ _ (nI c) y = _ ∧ _
          unfold F_M_count_80
          rw [(PM_fr p0 fy).2.2.1, if_pos (by rw [nN_le (by omega) (by omega)]; omega)]
          exact fin y f' (by omega) fy xy by' ⟨B, by omega, ⟨yes, cn_zero.mp c3⟩, fun i hi => fi i (by omega)⟩
        | succ e ihe =>
          intro c f' y hc hf' fy xy by' fi
          obtain ⟨f', rfl⟩ : ∃ z, f' = z + 1 := ⟨f' - 1, by omega⟩
          have p1 := p0.1
          show ∃ h', F_M_count_80 N (L_M_count N f') _ _ _ _ _ (nI c) y = _ ∧ _
          unfold F_M_count_80
          rw [(PM_fr p0 fy).2.2.1, if_neg (by rw [nN_le (by omega) (by omega)]; omega), if_pos (by rw [inB_nI (by omega)]; omega), if_pos (by rw [inB_nI (by omega)]; omega), iN_nI (by omega), xy c (by omega), show nI c + 1 = nI (c + 1) from nN_add c 1]
          refine ihe (c + 1) f' _ (by omega) (by omega) (fy.sI 108 c _ rfl) (fun i hi => ?_) by' (fun i hi => ?_)
          · rw [gI_sI, if_neg (by omega)]; exact xy i hi
          · rw [gI_sI]
            by_cases z : i = c
            · rw [if_pos ⟨rfl, z⟩, z]
            · rw [if_neg (by omega)]; exact fi i (by omega)
      have p1 := p0.1
      exact firsts P.1 0 (f + 1) x1 (by omega) (by omega) frx a3 mcx.1 (fun i hi => by omega)
theorem eCount {N : Nat} (hN : 20000000 < N) {P : PB} {s sm set : Nat} (hs9 : s ≤ 9) (hsm : sm < 256) (hm : ∀ k, P.2.1 ≤ k → sm.testBit k = false) (hset : set < 256) {h0 : MH} (p0 : PM P h0) (hsmooth : gI h0 68 66 = nI s) : ∃ h', f_M_count N (nI sm) (nI set) h0 = some (nJ (cn (vld P s sm) (10 ^ P.1)), h') ∧ Fr wC h0 h' ∧ MCt P s sm set h' (10 ^ P.1) := by
  have hten := ten6 p0.1
  have main : ∀ (d q f : Nat) (h : MH), q + d = 55 → 15000000 + d < f → Fr wC h0 h → (∀ i, i < q → gJ h 107 i = 0) → ∃ h', (L_M_count N f).1 (nI sm) (nI set) 0 (nI q) h = some (nJ (cn (vld P s sm) (10 ^ P.1)), h') ∧ Fr wC h0 h' ∧ MCt P s sm set h' (10 ^ P.1) := by
    intro d
    induction d with
    | zero =>
      intro q f h hd hf fr z
      obtain ⟨f, rfl⟩ : ∃ z, f = z + 1 := ⟨f - 1, by omega⟩
      show ∃ h', F_M_count_5 N (L_M_count N f) _ _ _ (nI q) h = _ ∧ _
      unfold F_M_count_5
      rw [if_pos (by rw [show (55 : Int32) = nI 55 from rfl, nN_le (by omega) (by omega)]; omega), eRows (N := N) (by omega) (PM_fr p0 fr), bnd_some]
      exact lCount (N := N) (by omega) hs9 hsm hm hset p0 hsmooth (10 ^ P.1) 0 (f + 1) h (by omega) (by omega) fr ⟨fun i hi => by rw [z i (by omega)]; rfl, fun z => by exact absurd z (by simp [cn])⟩
    | succ d ih =>
      intro q f h hd hf fr z
      obtain ⟨f, rfl⟩ : ∃ z, f = z + 1 := ⟨f - 1, by omega⟩
      show ∃ h', F_M_count_5 N (L_M_count N f) _ _ _ (nI q) h = _ ∧ _
      unfold F_M_count_5
      rw [if_neg (by rw [show (55 : Int32) = nI 55 from rfl, nN_le (by omega) (by omega)]; omega), if_pos (by rw [inB_nI (by omega)]; omega), iN_nI (by omega), show nI q + 1 = nI (q + 1) from nN_add q 1]
      refine ih (q + 1) f _ (by omega) (by omega) (fr.sJ 107 _ _ rfl) (fun i hi => ?_)
      rw [gJ_sJ]
      by_cases c : i = q
      · rw [if_pos ⟨rfl, c⟩]
      · rw [if_neg (by omega)]; exact z i (by omega)
  exact main 55 0 (N + 1) h0 (by omega) (by omega) Fr.rfl (fun i hi => by omega)
