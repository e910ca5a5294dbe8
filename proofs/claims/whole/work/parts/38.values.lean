/-! VALUES: which row counts, and what it says -/
def rwS (h : MH) (mk y : Int32) : Nat → Option Nat
  | 0 => none
  | n + 1 => if gI h 95 n = mk ∧ gI h 96 n = y ∧ gI h 99 n ≤ gI h 68 51 then some n else rwS h mk y n
def vlS (h : MH) (mk y v : Int32) : Nat → Int32
  | 0 => v
  | o + 1 => if gI h 100 o = mk ∧ gI h 101 o ≤ y then vlS h mk y v o - gI h 102 o else vlS h mk y v o
def VV (h : MH) (mk y : Int32) : Option (Int32 × Int32) := (rwS h mk y (iN (gI h 68 48))).map (fun k => (vlS h mk y (gI h 97 k) (iN (gI h 68 49)), gI h 98 k))
def rwI (o : Option Nat) : Int32 := match o with
  | none => -1
  | some k => nI k
theorem rwS_some {h : MH} {mk y : Int32} : ∀ {n k : Nat}, rwS h mk y n = some k → k < n ∧ gI h 95 k = mk ∧ gI h 96 k = y
  | 0, k, e => by cases e
  | n + 1, k, e => by
    unfold rwS at e
    split at e
    · next q => cases e; exact ⟨by omega, q.1, q.2.1⟩
    · have := rwS_some e; exact ⟨by omega, this.2⟩
theorem L1n : (-1 : Int32) = -nI 1 := rfl
theorem nN_pred {k : Nat} : nI (k + 1) + -1 = nI k := by
  rw [← nN_add]; show nI k + nI 1 + -nI 1 = nI k
  grind
theorem m1_ne {k : Nat} (hk : k < 2147483648) : ¬ nI k = -1 := by
  intro q
  have : (0 : Int32) ≤ nI k := by rw [L0, nN_le (by omega) (by omega)]; omega
  rw [q] at this; revert this; decide
theorem lM_rowOf {N : Nat} (mk y : Int32) (h : MH) : ∀ (n k : Nat), k ≤ 160 → k < n → L_M_rowOf N n mk y (nI k + -1) h = some (rwI (rwS h mk y k), h) := by
  intro n
  induction n with
  | zero => intro k _ h2; omega
  | succ n ih =>
    intro k hk h2
    show F_M_rowOf_7 N (L_M_rowOf N n) mk y (nI k + -1) h = _
    unfold F_M_rowOf_7
    cases k with
    | zero => rw [if_pos (show nI 0 + -1 < 0 by decide)]; rfl
    | succ k =>
      rw [nN_pred]
      have p0 : ¬ nI k < 0 := by rw [L0, nN_lt (by omega) (by omega)]; omega
      have k160 : k < 160 := by omega
      simp (disch := omega) only [p0, if_false, inB_nI, iN_nI, k160, if_true]
      rw [ih k (by omega) (by omega), show rwS h mk y (k + 1) = if gI h 95 k = mk ∧ gI h 96 k = y ∧ gI h 99 k ≤ gI h 68 51 then some k else rwS h mk y k from rfl]
      by_cases q1 : gI h 95 k = mk
      · by_cases q2 : gI h 96 k = y
        · by_cases q3 : gI h 68 51 < gI h 99 k
          · simp only [q1, q2, q3, if_true, Int32.not_le.mpr q3, and_false, if_false]
          · simp only [q1, q2, q3, if_true, Int32.not_lt.mp q3, and_true, if_false]; rfl
        · simp only [q1, q2, if_true, false_and, and_false, if_false]
      · simp only [q1, false_and, if_false]
theorem eM_rowOf {N : Nat} (hN : 200 < N) {h : MH} {r : Nat} (hr : r ≤ 160) (e : gI h 68 48 = nI r) (mk y : Int32) : f_M_rowOf N mk y h = some (rwI (rwS h mk y r), h) := by
  have := lM_rowOf (N := N) mk y h (N + 1) r hr (by omega)
  show F_M_rowOf_7 N (L_M_rowOf N N) mk y (gI h 68 48 - 1) h = _
  rw [e, show nI r - 1 = nI r + -1 by grind]
  exact this
theorem lM_valueOf {N : Nat} {h : MH} {o r : Nat} (ho : o ≤ 20) (e : gI h 68 49 = nI o) (hr : r < 160) (v : Int32) : ∀ (n i : Nat), i ≤ o → o - i < n → L_M_valueOf N n (nI r) (vlS h (gI h 95 r) (gI h 96 r) v i) (nI i) h = some (vlS h (gI h 95 r) (gI h 96 r) v o, h) := by
  intro n
  induction n with
  | zero => intro i _ h2; omega
  | succ n ih =>
    intro i hi h2
    show F_M_valueOf_9 N (L_M_valueOf N n) (nI r) _ (nI i) h = _
    unfold F_M_valueOf_9
    simp (disch := omega) only [e, nN_le, inB_nI, iN_nI, hr, if_true, L1, nN_add]
    by_cases g : o ≤ i
    · rw [if_pos g, show i = o by omega]
    · have i20 : i < 20 := by omega
      have ih' := ih (i + 1) (by omega) (by omega)
      simp only [g, i20, if_true, if_false]
      by_cases q1 : gI h 100 i = gI h 95 r
      · by_cases q2 : gI h 96 r < gI h 101 i
        · rw [if_pos q1, if_pos q2]
          rw [vlS, if_neg (by rintro ⟨-, z⟩; exact absurd q2 (Int32.not_lt.mpr z))] at ih'
          exact ih'
        · rw [if_pos q1, if_neg q2]
          rw [vlS, if_pos ⟨q1, Int32.not_lt.mp q2⟩] at ih'
          exact ih'
      · rw [if_neg q1]
        rw [vlS, if_neg (by rintro ⟨z, -⟩; exact q1 z)] at ih'
        exact ih'
theorem eM_valueOf {N : Nat} (hN : 200 < N) {h : MH} {o r : Nat} (ho : o ≤ 20) (e : gI h 68 49 = nI o) (hr : r < 160) : f_M_valueOf N (nI r) h = some (vlS h (gI h 95 r) (gI h 96 r) (gI h 97 r) o, h) := by
  have := lM_valueOf (N := N) ho e hr (gI h 97 r) (N + 1) 0 (by omega) (by omega)
  show F_M_valueOf_0 N (L_M_valueOf N N) (nI r) h = _
  unfold F_M_valueOf_0
  rw [if_pos (by rw [inB_nI (by omega)]; exact hr), iN_nI (by omega)]
  exact this
def wG (c _k : Nat) : Bool := 25 ≤ c && c ≤ 27
/-- gather, by its four loops; the rows are those of the reference's heap hM -/
def GA (hM : MH) (mk : Int32) (i : Nat) (h : MH) : Prop := ∀ y, y < 20 → match rwS hM mk (nI y) i with
  | none => gI h 25 y = 0
  | some k => gI h 25 y = 1 ∧ gI h 26 y = gI hM 97 k ∧ gI h 27 y = gI hM 98 k
def GB (hM : MH) (mk : Int32) (r o : Nat) (h : MH) (z : Nat) : Prop := ∀ y, y < 20 → match rwS hM mk (nI y) r with
  | none => gI h 25 y = 0
  | some k => gI h 25 y = 1 ∧ gI h 26 y = (if y < z then vlS hM mk (nI y) (gI hM 97 k) (o + 1) else vlS hM mk (nI y) (gI hM 97 k) o) ∧ gI h 27 y = gI hM 98 k
theorem lGather4 {N : Nat} {hS hM : MH} {m r o : Nat} (hR : IvR hS hM m r o) (mk : Int32) {i : Nat} (hi : i < o) {K : MH → Prop} (bk : Nat → (Int32 → Int32 → MH → Option MH) × (Int32 → Int32 → MH → Option MH) × (Int32 → Int32 → MH → Option MH) × (Int32 → Int32 → Int32 → MH → Option MH)) (hb : ∀ n, (bk (n + 1)).2.2.2 = F_Ledger_gather_101 N (bk n)) {z0 : Nat} (hz0 : gI hM 101 i = nI z0) (hz20 : z0 < 20) (hmk : gI hM 100 i = mk) (M T : Nat) (res : MH → Prop)
    (hk : ∀ n h, n < T → Fr wG hS h → GB hM mk r (i + 1) h 0 → M ≤ n → ∃ h', (bk n).2.2.1 mk (nI (i + 1)) h = some h' ∧ res h') : ∀ (n z : Nat) (h : MH), n ≤ T → z0 ≤ z → z ≤ 20 → M + (20 - z) < n → Fr wG hS h → GB hM mk r i h z → ∃ h', (bk n).2.2.2 mk (nI i) (nI z) h = some h' ∧ res h' := by
  obtain ⟨⟨R1, R2⟩, ⟨R3, R4⟩, ⟨R5, R6⟩, R7, R8, R9⟩ := hR
  intro n
  induction n with
  | zero => intro z h _ _ _ h2; omega
  | succ n ih =>
    intro z h hT h1 h20 h2 fr gb
    rw [hb]
    unfold F_Ledger_gather_101
    have i20 : i < 20 := by omega
    simp (disch := omega) only [L20, nN_le, inB_nI, iN_nI, i20, if_true, L1, nN_add]
    by_cases g : 20 ≤ z
    · rw [if_pos g]
      refine hk n h (by omega) fr (fun y hy => ?_) (by omega)
      have := gb y hy
      split
      · next e => rw [e] at this; exact this
      · next k e => rw [e] at this; simp only at this ⊢; rw [if_pos (by omega)] at this; simpa using this
    · rw [if_neg g]
      have e22 : gI h 22 i = mk := by rw [fr.i 22 i rfl, (R8 i hi).1, hmk]
      have e24 : gI h 24 i = gI hM 102 i := by rw [fr.i 24 i rfl, (R8 i hi).2.2.1]
      have zz : z < 20 := by omega
      simp only [e22, zz, if_true]
      refine ih (z + 1) _ (by omega) (by omega) (by omega) (by omega) (fr.sI 26 z _ rfl) (fun y hy => ?_)
      have := gb y hy
      split
      · next e => rw [e] at this; exact this
      · next k e =>
        rw [e] at this
        simp only at this ⊢
        refine ⟨this.1, ?_, this.2.2⟩
        rw [gI_sI]
        by_cases q : y = z
        · subst q
          rw [if_pos ⟨rfl, rfl⟩, this.2.1, if_neg (by omega), if_pos (by omega), vlS, if_pos, e24]
          exact ⟨hmk, by rw [hz0, nN_le (by omega) (by omega)]; omega⟩
        · rw [if_neg (by omega), this.2.1]
          by_cases q2 : y < z
          · rw [if_pos q2, if_pos (by omega)]
          · rw [if_neg q2, if_neg (by omega)]
theorem lGather3 {N : Nat} {hS hM : MH} {m r o : Nat} (hR : IvR hS hM m r o) (mk : Int32) : ∀ (n i : Nat) (h : MH), i ≤ o → 22 * (o - i) < n → Fr wG hS h → GB hM mk r i h 0 → ∃ h', (L_Ledger_gather N n).2.2.1 mk (nI i) h = some h' ∧ Fr wG hS h' ∧ GB hM mk r o h' 0 := by
  have hR' := hR
  obtain ⟨⟨R1, R2⟩, ⟨R3, R4⟩, ⟨R5, R6⟩, R7, R8, R9⟩ := hR'
  intro n
  induction n using Nat.strongRecOn with
  | _ n ih =>
    intro i h hi h2 fr gb
    cases n with
    | zero => omega
    | succ n =>
      show ∃ h', F_Ledger_gather_86 N (L_Ledger_gather N n) mk (nI i) h = some h' ∧ _
      unfold F_Ledger_gather_86
      have e9 : gI h 16 9 = nI o := by rw [fr.i 16 9 rfl, R5]
      simp (disch := omega) only [e9, nN_le, inB_nI, iN_nI]
      by_cases g : o ≤ i
      · rw [if_pos g]
        have : i = o := by omega
        subst this
        exact ⟨h, rfl, fr, gb⟩
      · rw [if_neg g, if_pos (by omega)]
        obtain ⟨q1, q2, q3, ⟨z0, hz, ez⟩, -⟩ := R8 i (by omega)
        have e23 : gI h 23 i = nI z0 := by rw [fr.i 23 i rfl, q2, ez]
        rw [e23]
        by_cases hm : gI hM 100 i = mk
        · have gz : GB hM mk r i h z0 := by
            intro y hy
            have := gb y hy
            split
            · next e => rw [e] at this; exact this
            · next k e =>
              rw [e] at this
              simp only at this ⊢
              refine ⟨this.1, ?_, this.2.2⟩
              rw [this.2.1, if_neg (by omega)]
              by_cases q : y < z0
              · rw [if_pos q, vlS, if_neg]
                rintro ⟨-, q5⟩
                rw [ez, nN_le (by omega) (by omega)] at q5
                omega
              · rw [if_neg q]
          have := lGather4 (N := N) (K := fun _ => True) hR mk (i := i) (by omega) (L_Ledger_gather N) (fun _ => rfl) ez hz hm (22 * (o - (i + 1)) + 1) (n + 1) (fun h' => Fr wG hS h' ∧ GB hM mk r o h' 0) (fun k h' hkn f' g' hk => ih k hkn (i + 1) h' (by omega) (by omega) f' g') (n + 1) z0 h (Nat.le_refl _) (Nat.le_refl _) (by omega) (by omega) fr gz
          exact this
        · unfold F_Ledger_gather_101
          have i20 : i < 20 := by omega
          have e22 : ¬ gI h 22 i = mk := by rw [fr.i 22 i rfl, q1]; exact hm
          simp (disch := omega) only [L20, nN_le, inB_nI, iN_nI, i20, if_true, L1, nN_add, e22, if_false]
          rw [if_neg (by omega)]
          refine ih n (by omega) (i + 1) h (by omega) (by omega) fr (fun y hy => ?_)
          have := gb y hy
          split
          · next e => rw [e] at this; exact this
          · next k e =>
            rw [e] at this
            simp only at this ⊢
            refine ⟨this.1, ?_, this.2.2⟩
            rw [this.2.1, if_neg (by omega), if_neg (by omega), vlS, if_neg]
            rintro ⟨q5, -⟩
            exact hm q5
theorem eLedger_counts {N : Nat} {hS hM : MH} {m r o : Nat} (hR : IvR hS hM m r o) (hA : gI hS 16 11 = gI hM 68 51) {h : MH} (fr : Fr wG hS h) (mk : Int32) {i : Nat} (hi : i < r) : f_Ledger_counts N (nI i) mk h = some (if gI hM 95 i = mk ∧ gI hM 99 i ≤ gI hM 68 51 then 1 else 0, h) := by
  obtain ⟨⟨R1, R2⟩, ⟨R3, R4⟩, ⟨R5, R6⟩, R7, R8, R9⟩ := hR
  obtain ⟨q1, q2, q3, q4, q5, q6⟩ := R7 i hi
  unfold f_Ledger_counts
  have i160 : i < 160 := by omega
  simp (disch := omega) only [inB_nI, iN_nI, i160, if_true]
  rw [fr.i 17 i rfl, q1, fr.i 16 11 rfl, hA, fr.i 21 i rfl, q5]
  by_cases g1 : gI hM 95 i = mk
  · by_cases g2 : gI hM 68 51 < gI hM 99 i
    · rw [if_pos g1, if_pos g2, if_neg (by rintro ⟨-, z⟩; exact absurd g2 (Int32.not_lt.mpr z))]
    · rw [if_pos g1, if_neg g2, if_pos ⟨g1, Int32.not_lt.mp g2⟩]
  · rw [if_neg g1, if_neg (by rintro ⟨z, -⟩; exact g1 z)]
theorem lGather2 {N : Nat} {hS hM : MH} {m r o : Nat} (hR : IvR hS hM m r o) (hA : gI hS 16 11 = gI hM 68 51) (mk : Int32) : ∀ (n i : Nat) (h : MH), i ≤ r → (r - i) + 22 * 20 + 2 < n → Fr wG hS h → GA hM mk i h → ∃ h', (L_Ledger_gather N n).2.1 mk (nI i) h = some h' ∧ Fr wG hS h' ∧ GB hM mk r o h' 0 := by
  have hR' := hR
  obtain ⟨⟨R1, R2⟩, ⟨R3, R4⟩, ⟨R5, R6⟩, R7, R8, R9⟩ := hR'
  intro n
  induction n with
  | zero => intro i h _ h2; omega
  | succ n ih =>
    intro i h hi h2 fr ga
    show ∃ h', F_Ledger_gather_23 N (L_Ledger_gather N n) mk (nI i) h = some h' ∧ _
    unfold F_Ledger_gather_23
    have e5 : gI h 16 5 = nI r := by rw [fr.i 16 5 rfl, R3]
    simp (disch := omega) only [e5, nN_le]
    by_cases g : r ≤ i
    · rw [if_pos g]
      have : i = r := by omega
      subst this
      refine lGather3 hR mk (n + 1) 0 h (by omega) (by omega) fr (fun y hy => ?_)
      have := ga y hy
      split
      · next e => rw [e] at this; exact this
      · next k e => rw [e] at this; simp only at this ⊢; simpa [vlS] using this
    · rw [if_neg g, eLedger_counts hR hA fr mk (by omega), bnd_some]
      simp only [bz]
      obtain ⟨q1, q2, q3, q4, q5, ⟨y0, hy0, ey0⟩, q7, q8⟩ := R7 i (by omega)
      by_cases gc : gI hM 95 i = mk ∧ gI hM 99 i ≤ gI hM 68 51
      · rw [if_neg (by simp [gc])]
        have i160 : i < 160 := by omega
        have e18 : gI h 18 i = nI y0 := by rw [fr.i 18 i rfl, q2, ey0]
        have k1 : ∀ v w, gI (sI h 25 v w) 19 i = gI hM 97 i := fun v w => by show gI h 19 i = _; rw [fr.i 19 i rfl, q3]
        have k2 : ∀ v w x z, gI (sI (sI h 25 v w) 26 x z) 20 i = gI hM 98 i := fun v w x z => by show gI h 20 i = _; rw [fr.i 20 i rfl, q4]
        simp (disch := omega) only [inB_nI, iN_nI, i160, if_true, e18, hy0, k1, k2]
        rw [show nI i + 1 = nI (i + 1) from nN_add i 1]
        refine ih (i + 1) _ (by omega) (by omega) (((fr.sI 25 _ _ rfl).sI 26 _ _ rfl).sI 27 _ _ rfl) (fun y hy => ?_)
        unfold rwS
        by_cases gy : y = y0
        · subst gy
          rw [if_pos ⟨gc.1, ey0, gc.2⟩]
          simp only [gI_sI]
          simp
        · have hne : ¬ (gI hM 95 i = mk ∧ gI hM 96 i = nI y ∧ gI hM 99 i ≤ gI hM 68 51) := by
            rintro ⟨-, z, -⟩
            rw [ey0, nN_inj (by omega) (by omega)] at z
            exact gy z.symm
          rw [if_neg hne]
          have := ga y hy
          simp only [gI_sI]
          simp only [gy, and_false, if_false]
          simpa using this
      · rw [if_pos gc, show nI i + 1 = nI (i + 1) from nN_add i 1]
        refine ih (i + 1) _ (by omega) (by omega) fr (fun y hy => ?_)
        unfold rwS
        rw [if_neg (by rintro ⟨z1, -, z2⟩; exact gc ⟨z1, z2⟩)]
        exact ga y hy
theorem lGather1 {N : Nat} {hS hM : MH} {m r o : Nat} (hR : IvR hS hM m r o) (hA : gI hS 16 11 = gI hM 68 51) (mk : Int32) : ∀ (n i : Nat) (h : MH), i ≤ 20 → (20 - i) + 160 + 22 * 20 + 3 < n → Fr wG hS h → (∀ y, y < i → gI h 25 y = 0) → ∃ h', (L_Ledger_gather N n).1 mk (nI i) h = some h' ∧ Fr wG hS h' ∧ GB hM mk r o h' 0 := by
  have hR' := hR
  obtain ⟨⟨R1, R2⟩, ⟨R3, R4⟩, ⟨R5, R6⟩, R7, R8, R9⟩ := hR'
  intro n
  induction n with
  | zero => intro i h _ h2; omega
  | succ n ih =>
    intro i h hi h2 fr ga
    show ∃ h', F_Ledger_gather_2 N (L_Ledger_gather N n) mk (nI i) h = some h' ∧ _
    unfold F_Ledger_gather_2
    simp (disch := omega) only [L20, nN_le, inB_nI, iN_nI]
    by_cases g : 20 ≤ i
    · rw [if_pos g]
      refine lGather2 hR hA mk (n + 1) 0 h (by omega) (by omega) fr (fun y hy => ga y (by omega))
    · rw [if_neg g, if_pos (by omega), show nI i + 1 = nI (i + 1) from nN_add i 1]
      refine ih (i + 1) _ (by omega) (by omega) (fr.sI 25 _ _ rfl) (fun y hy => ?_)
      rw [gI_sI]
      by_cases q : y = i
      · rw [if_pos ⟨rfl, q⟩]; rfl
      · rw [if_neg (by omega)]; exact ga y (by omega)
/-- what gather leaves: the VALUES of the mark, as the reference sees them -/
theorem eGather {N : Nat} (hN : 1000 < N) {hS hM : MH} {m r o : Nat} (hR : IvR hS hM m r o) (hA : gI hS 16 11 = gI hM 68 51) (mk : Int32) : ∃ h', f_Ledger_gather N mk hS = some h' ∧ Fr wG hS h' ∧ ∀ y, y < 20 → match VV hM mk (nI y) with
    | none => gI h' 25 y = 0
    | some q => gI h' 25 y = 1 ∧ gI h' 26 y = q.1 ∧ gI h' 27 y = q.2 := by
  obtain ⟨h', e1, e2, e3⟩ := lGather1 (N := N) hR hA mk (N + 1) 0 hS (by omega) (by omega) Fr.rfl (fun y hy => by omega)
  refine ⟨h', e1, e2, fun y hy => ?_⟩
  have := e3 y hy
  obtain ⟨⟨R1, R2⟩, ⟨R3, R4⟩, ⟨R5, R6⟩, R7, R8, R9⟩ := hR
  unfold VV
  rw [R4, R6, iN_nI (by omega), iN_nI (by omega)]
  cases e : rwS hM mk (nI y) r with
  | none => rw [e] at this; exact this
  | some k => rw [e] at this; simpa using this
theorem Inv_RA {hS hM : MH} (h : Inv2 hS hM) : ∃ m r o, IvR hS hM m r o ∧ gI hS 16 11 = gI hM 68 51 := by
  obtain ⟨hA, ⟨G, n, m, hE⟩, _⟩ := h
  obtain ⟨-, -, -, ⟨r, o, hR⟩, -⟩ := hE
  exact ⟨m, r, o, hR, hA.2.2.2.2.2.2.2.1⟩
theorem wG_v {c k : Nat} (h : vS c k = false) : wG c k = false := by
  unfold vS at h; unfold wG; simp at h ⊢; omega
theorem op_value {N : Nat} (hN : 1000 < N) {hS hM : MH} (h : Inv2 hS hM) (a1 a2 a3 : Int32) : OK2 hS hM (f_S_value N a1 a2 a3 hS) (f_M_value N a1 a2 a3 hM) := by
  obtain ⟨G, n, m, hE, hn, hm, eG, e1, e2, e3, e4⟩ := Inv_nm h
  obtain ⟨m', r, o, hR, hA⟩ := Inv_RA h
  have hR' := hR
  obtain ⟨⟨R1, R2⟩, ⟨R3, R4⟩, ⟨R5, R6⟩, R7, R8, R9⟩ := hR'
  unfold f_S_value f_M_value f_S_refuse f_M_refuse f_M_gives f_S_answer
  simp only [eS_isMark, eM_isMark, eS_isYear, eM_isYear, eS_isOneOf, bnd_some, bz, iteV, eG, e2, e4]
  by_cases g1 : 0 ≤ a1 ∧ a1 < nI m
  case neg =>
    simp only [g1, not_false_eq_true, if_true]
    exact OK2_st h Fr.rfl Fr.rfl _ _
  by_cases g2 : 0 ≤ a2 ∧ a2 < 20
  case neg =>
    simp only [g1, g2, and_self, not_true, not_false_eq_true, if_true, if_false]
    exact OK2_st h Fr.rfl Fr.rfl _ _
  by_cases g3 : 0 ≤ a3 ∧ a3 < 2
  case neg =>
    have g3' : ¬ (0 ≤ a3 ∧ a3 ≤ 1) := by grind
    simp only [g1, g2, g3, g3', and_self, not_true, not_false_eq_true, if_true, if_false]
    exact OK2_st h Fr.rfl Fr.rfl _ _
  have g3' : 0 ≤ a3 ∧ a3 ≤ 1 := by grind
  simp only [g1, g2, g3, g3', and_self, not_true, not_false_eq_true, if_true, if_false]
  obtain ⟨y, hy, rfl⟩ := rng (n := 20) (by omega) g2
  obtain ⟨h', b1, b2, b3⟩ := eGather (N := N) hN hR hA a1
  have bv := b3 y hy
  rw [b1, eM_rowOf (by omega) R1 R4]
  simp (disch := omega) only [bnd_some, inB_nI, iN_nI, hy, if_true]
  unfold VV at bv
  rw [R4, R6, iN_nI (by omega), iN_nI (by omega)] at bv
  have fS : Fr vS hS h' := b2.mono (fun _ _ => wG_v)
  cases e : rwS hM a1 (nI y) r with
  | none =>
    rw [e] at bv
    simp only [Option.map_none] at bv
    rw [bv]
    simp only [if_true, rwI]
    exact OK2_st h fS Fr.rfl _ _
  | some k =>
    rw [e] at bv
    simp only [Option.map_some] at bv
    obtain ⟨s1, s2, s3⟩ := rwS_some e
    have nk : ¬ nI k = -1 := m1_ne (by omega)
    rw [bv.1, bv.2.1, bv.2.2]
    simp only [rwI, nk, if_false]
    rw [if_neg (by decide), eM_valueOf (by omega) R2 R6 (by omega), s2, s3]
    simp (disch := omega) only [bnd_some, inB_nI, iN_nI]
    split
    · exact OK2_st h fS Fr.rfl _ _
    · rw [if_pos (by omega)]
      exact OK2_st h fS Fr.rfl _ _
