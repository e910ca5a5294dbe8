/-! SLIPS: the class prepares -/
def wPr (c k : Nat) : Bool := (25 ≤ c && c ≤ 27) || (c == 33 && k ≤ 2) || c == 36 || c == 37
theorem wPr_v {c k : Nat} (h : vS c k = false) : wPr c k = false := by
  unfold vS at h; unfold wPr; simp at h ⊢; omega
theorem lPrep {N : Nat} (hN : 1000 < N) {hS hM : MH} {m' r o m G : Nat} (hR : IvR hS hM m' r o) (hA : gI hS 16 11 = gI hM 68 51) (hm : m ≤ 8) {y1 y2 : Nat} (hy1 : y1 < 20) (hy2 : y2 < 20) (res : Option MH → Prop)
    (cont : ∀ y mv f, Fr wPr hS y → gI y 33 0 = gI hS G 0 → gI y 33 1 = nI m → gI y 33 2 = nI mv → SVm hM y1 y2 mv m → (∀ k, k < m → mv.testBit k = true → loV hM y1 y2 k (gI y 36 k) ∧ hiV hM y1 y2 k (gI y 37 k)) → res (F_Asked_prepare_24 N (L_Asked_prepare N f) G (nI y1) (nI y2) (nI m) y)) :
    ∀ (e k f x : Nat) (y : MH), k + e = m → e < f → Fr wPr hS y → gI y 33 0 = gI hS G 0 → gI y 33 1 = nI m → gI y 33 2 = nI x → SVm hM y1 y2 x k → (∀ j, j < k → x.testBit j = true → loV hM y1 y2 j (gI y 36 j) ∧ hiV hM y1 y2 j (gI y 37 j)) → res (L_Asked_prepare N f G (nI y1) (nI y2) (nI k) y) := by
  intro e
  induction e with
  | zero =>
    intro k f x y he hf fr h0 h1 h2 sv lh
    obtain ⟨f, rfl⟩ : ∃ q, f = q + 1 := ⟨f - 1, by omega⟩
    have : k = m := by omega
    subst this
    exact cont y x f fr h0 h1 h2 sv lh
  | succ e ih =>
    intro k f x y he hf fr h0 h1 h2 sv lh
    obtain ⟨f, rfl⟩ : ∃ q, f = q + 1 := ⟨f - 1, by omega⟩
    show res (F_Asked_prepare_24 N (L_Asked_prepare N f) G (nI y1) (nI y2) (nI k) y)
    unfold F_Asked_prepare_24
    have hRy : IvR y hM m' r o := IvR_fr hR fr (Fr.rfl (W := vM)) (fun c k q => by unfold kRS at q; unfold wPr; simp at q ⊢; omega) (fun c k q => by unfold kRM at q; unfold vM; simp at q ⊢; omega)
    have hAy : gI y 16 11 = gI hM 68 51 := by rw [fr.i 16 11 rfl]; exact hA
    obtain ⟨z, a1, a2, a3⟩ := eGather (N := N) hN hRy hAy (nI k)
    have g1 := a3 y1 hy1
    have g2 := a3 y2 hy2
    have fz : Fr wPr hS z := fr.trans (a2.mono (fun c k q => by unfold wPr at q; unfold wG; simp at q ⊢; omega))
    have i1 : inB (nI y1) 20 = true := by rw [inB_nI (by omega)]; exact hy1
    have i2 : inB (nI y2) 20 = true := by rw [inB_nI (by omega)]; exact hy2
    have ik : inB (nI k) 8 = true := by rw [inB_nI (by omega)]; omega
    rw [h1, if_neg (by rw [nN_le (by omega) (by omega)]; omega), a1, bnd_some]
    simp only [i1, i2, ik, if_true]
    rw [iN_nI (by omega), iN_nI (by omega), iN_nI (by omega), show nI k + 1 = nI (k + 1) from nN_add k 1]
    have zl : ∀ j, gI z 36 j = gI y 36 j ∧ gI z 37 j = gI y 37 j := fun j => ⟨a2.i 36 j rfl, a2.i 37 j rfl⟩
    have lh' : ∀ j, j < k + 1 → x.testBit j = true → j ≠ k := fun j j1 j2 j3 => by
      subst j3
      have := (sv.2 j (by omega)).mp j2
      omega
    have skip : (VV hM (nI k) (nI y1) = none ∨ VV hM (nI k) (nI y2) = none) → res (L_Asked_prepare N f G (nI y1) (nI y2) (nI (k + 1)) z) := fun q => ih (k + 1) f x z (by omega) (by omega) fz (by rw [a2.i 33 0 rfl]; exact h0) (by rw [a2.i 33 1 rfl]; exact h1) (by rw [a2.i 33 2 rfl]; exact h2) (SV_no sv q) (fun j j1 j2 => by
      rw [(zl j).1, (zl j).2]
      exact lh j (by have := lh' j j1 j2; omega) j2)
    cases q1 : VV hM (nI k) (nI y1) with
    | none =>
      rw [q1] at g1
      rw [g1, if_pos rfl]
      exact skip (.inl q1)
    | some a =>
      rw [q1] at g1
      simp only at g1
      rw [g1.1, if_neg (by decide)]
      cases q2 : VV hM (nI k) (nI y2) with
      | none =>
        rw [q2] at g2
        rw [g2, if_pos rfl]
        exact skip (.inr q2)
      | some b =>
        rw [q2] at g2
        simp only at g2
        rw [g2.1, if_neg (by decide), g1.2.1, g1.2.2, g2.2.1, g2.2.2, a2.i 33 2 rfl, h2, shl_n (by omega), nI_or]
        refine ih (k + 1) f (x ||| 2 ^ k) _ (by omega) (by omega) (((fz.sI 33 2 _ rfl).sI 36 k _ rfl).sI 37 k _ rfl) ?_ ?_ rfl (SV_yes (by omega) sv q1 q2) (fun j j1 j2 => ?_)
        · show gI z 33 0 = _
          rw [a2.i 33 0 rfl]; exact h0
        · show gI z 33 1 = _
          rw [a2.i 33 1 rfl]; exact h1
        · by_cases zz : j = k
          · subst zz
            refine ⟨fun p q e1 e2 => ?_, fun p q e1 e2 => ?_⟩
            · rw [q1] at e1; rw [q2] at e2
              cases e1; cases e2
              rw [gI_sI, gI_sI]; simp
            · rw [q1] at e1; rw [q2] at e2
              cases e1; cases e2
              rw [gI_sI]; simp
          · rw [tb_or2, Bool.or_eq_true, decide_eq_true_eq] at j2
            have := lh j (by omega) (by rcases j2 with q | q; exact q; exact absurd q.symm zz)
            rw [← (zl j).1, ← (zl j).2] at this
            simpa [gI_sI, zz] using this
def w38 (c _k : Nat) : Bool := c == 38 || c == 39
theorem eBound {N : Nat} (hN : 1000 < N) {U : Nat → Nat → Int} {n : Nat} (hn : n ≤ 6) {h0 : MH} (hU : ∀ c k, c < 6 → k < 8 → (gI h0 34 (8 * c + k)).toInt = U c k ∧ (U c k).natAbs ≤ 9) (h33 : gI h0 33 0 = nI n) : ∃ h', f_Asked_boundRests N h0 = some h' ∧ Fr w38 h0 h' ∧ ∀ c k, c ≤ n → k < 8 → (gI h' 38 (8 * c + k)).toInt = mn U k n - mn U k c ∧ (gI h' 39 (8 * c + k)).toInt = mx U k n - mx U k c := by
  obtain ⟨x1, a1, a2, a3, a4, a5⟩ := fFillI (N := N) 56 38 0 h0 (by omega) (by omega)
  obtain ⟨x2, b1, b2, b3, b4, b5⟩ := fFillI (N := N) 56 39 0 x1 (by omega) (by omega)
  have fx : Fr w38 h0 x2 := ⟨b5.trans a5, fun c k w => by
    unfold w38 at w
    simp at w
    refine ⟨?_, by rw [b3, a3], by rw [b4, a4]⟩
    rw [b2, if_neg (by omega), a2, if_neg (by omega)]⟩
  have main : ∀ (q f : Nat) (y : MH), q ≤ 8 * n → q < f → Fr w38 h0 y → (∀ c k, c ≤ n → k < 8 → q ≤ 8 * c + k → (gI y 38 (8 * c + k)).toInt = mn U k n - mn U k c ∧ (gI y 39 (8 * c + k)).toInt = mx U k n - mx U k c) → ∃ h', L_Asked_boundRests N f (nI q + -1) y = some h' ∧ Fr w38 h0 h' ∧ ∀ c k, c ≤ n → k < 8 → (gI h' 38 (8 * c + k)).toInt = mn U k n - mn U k c ∧ (gI h' 39 (8 * c + k)).toInt = mx U k n - mx U k c := by
    intro q
    induction q with
    | zero =>
      intro f y hq hf fr hy
      obtain ⟨f, rfl⟩ : ∃ z, f = z + 1 := ⟨f - 1, by omega⟩
      refine ⟨y, ?_, fr, fun c k hc hk => hy c k hc hk (by omega)⟩
      rw [show L_Asked_boundRests N (f + 1) = F_Asked_boundRests_26 N (L_Asked_boundRests N f) from rfl]
      unfold F_Asked_boundRests_26
      rw [if_pos (by decide)]
    | succ q ih =>
      intro f y hq hf fr hy
      obtain ⟨f, rfl⟩ : ∃ z, f = z + 1 := ⟨f - 1, by omega⟩
      rw [show L_Asked_boundRests N (f + 1) = F_Asked_boundRests_26 N (L_Asked_boundRests N f) from rfl]
      unfold F_Asked_boundRests_26
      rw [nN_pred, if_neg (by rw [L0, nN_lt (by omega) (by omega)]; omega), L8, nN_add, iN_nI (by omega), iN_nI (by omega)]
      have i1 : inB (nI q) 48 = true := by rw [inB_nI (by omega)]; omega
      have i2 : inB (nI (q + 8)) 56 = true := by rw [inB_nI (by omega)]; omega
      have i3 : inB (nI q) 56 = true := by rw [inB_nI (by omega)]; omega
      simp only [i1, i2, i3, if_true]
      obtain ⟨c, k, hck, hk⟩ : ∃ c k, q = 8 * c + k ∧ k < 8 := ⟨q / 8, q % 8, by omega, by omega⟩
      have hc : c < n := by omega
      obtain ⟨u1, u2⟩ := hU c k (by omega) hk
      have e34 : gI y 34 q = gI h0 34 q := fr.i 34 q rfl
      have u9 : (gI y 34 q * 9).toInt = 9 * U c k := by
        have n9 : (9 : Int32).toInt = 9 := rfl
        rw [e34, hck, i_mul (by rw [u1, n9]; omega) (by rw [u1, n9]; omega), u1, n9]; omega
      obtain ⟨v1, c1, c2⟩ := mnI2 (N := N) (gI y 34 q * 9) 0 y
      rw [c1, bnd_some]
      dsimp only
      have z0 : (0 : Int32).toInt = 0 := rfl
      rw [u9, z0] at c2
      obtain ⟨v2, d1, d2⟩ := mxI (N := N) (gI y 34 q * 9) 0 (sI y 38 q (gI y 38 (q + 8) + v1))
      rw [d1, bnd_some]
      dsimp only
      rw [u9, z0] at d2
      have hU' : ∀ c, c < 6 → (U c k).natAbs ≤ 9 := fun c hc => (hU c k hc hk).2
      have bb := mn_bd (k := k) hU' (c + 1) (by omega)
      have bn := mn_bd (k := k) hU' n hn
      obtain ⟨p1, p2⟩ := hy (c + 1) k (by omega) hk (by omega)
      rw [show 8 * (c + 1) + k = q + 8 by omega] at p1 p2
      have g39 : gI (sI y 38 q (gI y 38 (q + 8) + v1)) 39 (q + 8) = gI y 39 (q + 8) := rfl
      rw [g39]
      refine ih f _ (by omega) (by omega) ((fr.sI 38 q _ rfl).sI 39 q _ rfl) (fun c' k' hc' hk' hq' => ?_)
      by_cases z : 8 * c' + k' = q
      · have ec : c' = c := by omega
        have ek : k' = k := by omega
        subst ec; subst ek
        rw [z]
        have r1 : gI (sI (sI y 38 q (gI y 38 (q + 8) + v1)) 39 q (gI y 39 (q + 8) + v2)) 38 q = gI y 38 (q + 8) + v1 := by rw [gI_sI, gI_sI]; simp
        have r2 : gI (sI (sI y 38 q (gI y 38 (q + 8) + v1)) 39 q (gI y 39 (q + 8) + v2)) 39 q = gI y 39 (q + 8) + v2 := by rw [gI_sI]; simp
        have m1 : mn U k' (c' + 1) = mn U k' c' + min (9 * U c' k') 0 := rfl
        have m2 : mx U k' (c' + 1) = mx U k' c' + max (9 * U c' k') 0 := rfl
        rw [r1, r2, i_add (by rw [p1, c2]; omega) (by rw [p1, c2]; omega), i_add (by rw [p2, d2]; omega) (by rw [p2, d2]; omega), p1, p2, c2, d2]
        omega
      · rw [gI_sI, gI_sI, gI_sI, gI_sI, if_neg (by omega), if_neg (by omega), if_neg (by omega), if_neg (by omega)]
        exact hy c' k' hc' hk' (by omega)
  obtain ⟨h', m1, m2, m3⟩ := main (8 * n) (N + 1) x2 (Nat.le_refl _) (by omega) fx (fun c k hc hk hq => by
    have ec : c = n := by omega
    subst ec
    rw [Int.sub_self, Int.sub_self]
    have r1 : gI x2 38 (8 * c + k) = 0 := by rw [b2, if_neg (by omega), a2, if_pos (by omega)]
    have r2 : gI x2 39 (8 * c + k) = 0 := by rw [b2, if_pos (by omega)]
    rw [r1, r2]
    exact ⟨rfl, rfl⟩)
  refine ⟨h', ?_, m2, m3⟩
  show F_Asked_boundRests_0 N (L_Asked_boundRests N N) h0 = _
  unfold F_Asked_boundRests_0
  rw [a1, bnd_some, b1, bnd_some, fx.i 33 0 rfl, h33, L8, nN_mul, Nat.mul_comm, show nI (8 * n) - 1 = nI (8 * n) + -1 by grind]
  exact m1
/-- the problem between two years -/
def PBo (hM hs : MH) (n m : Nat) : PB := (n, m, (fun c k => (gI hM 88 (8 * c + k)).toInt), (fun a b => decide (gI hM 89 (6 * a + b) = 1)), (fun k => (gI hs 104 k).toInt), (fun k => (gI hs 105 k).toInt))
theorem loV_eq {hM : MH} {y1 y2 k : Nat} {v w : Int32} (s1 : VV hM (nI k) (nI y1) ≠ none) (s2 : VV hM (nI k) (nI y2) ≠ none) (h1 : loV hM y1 y2 k v) (h2 : loV hM y1 y2 k w) : v = w := by
  cases e1 : VV hM (nI k) (nI y1) with
  | none => exact absurd e1 s1
  | some a =>
    cases e2 : VV hM (nI k) (nI y2) with
    | none => exact absurd e2 s2
    | some b => rw [h1 a b e1 e2, h2 a b e1 e2]
theorem hiV_eq {hM : MH} {y1 y2 k : Nat} {v w : Int32} (s1 : VV hM (nI k) (nI y1) ≠ none) (s2 : VV hM (nI k) (nI y2) ≠ none) (h1 : hiV hM y1 y2 k v) (h2 : hiV hM y1 y2 k w) : v = w := by
  cases e1 : VV hM (nI k) (nI y1) with
  | none => exact absurd e1 s1
  | some a =>
    cases e2 : VV hM (nI k) (nI y2) with
    | none => exact absurd e2 s2
    | some b => rw [h1 a b e1 e2, h2 a b e1 e2]
theorem lhV_bd {hS hM : MH} {m r o : Nat} (hR : IvR hS hM m r o) {y1 y2 k : Nat} {v w : Int32} (s1 : VV hM (nI k) (nI y1) ≠ none) (s2 : VV hM (nI k) (nI y2) ≠ none) (h1 : loV hM y1 y2 k v) (h2 : hiV hM y1 y2 k w) : v.toInt.natAbs ≤ 100000 ∧ w.toInt.natAbs ≤ 100000 := by
  cases e1 : VV hM (nI k) (nI y1) with
  | none => exact absurd e1 s1
  | some a =>
    cases e2 : VV hM (nI k) (nI y2) with
    | none => exact absurd e2 s2
    | some b =>
      obtain ⟨a1, sa, a2, a3⟩ := VV_bd hR e1
      obtain ⟨b1, sb, b2, b3⟩ := VV_bd hR e2
      rw [h1 a b e1 e2, h2 a b e1 e2, a3, b3, nN_add]
      have d1 : (b.1 - a.1).toInt = b.1.toInt - a.1.toInt := i_sub (by omega) (by omega)
      have t1 := nN_toInt (k := sa + sb) (by omega)
      rw [i_sub (by rw [d1, t1]; omega) (by rw [d1, t1]; omega), i_add (by rw [d1, t1]; omega) (by rw [d1, t1]; omega), d1, t1]
      omega
def wAs (c k : Nat) : Bool := wPr c k || (34 ≤ c && c ≤ 35) || (38 ≤ c && c ≤ 39)
/-- both sides see the same problem -/
theorem ePrep {N : Nat} (hN : 1000 < N) {hS hM : MH} (h : Inv2 hS hM) {G n m : Nat} (hE : IvE hS hM G n m) {y1 y2 : Nat} (hy1 : y1 < 20) (hy2 : y2 < 20) : ∃ hx hs mv, f_Asked_prepare N G (nI y1) (nI y2) hS = some hx ∧ f_M_see N (nI y1) (nI y2) hM = some hs ∧ Fr vS hS hx ∧ Fr vM hM hs ∧ AS (PBo hM hs n m) mv hx ∧ PM (PBo hM hs n m) hs ∧ gI hx 33 2 = nI mv ∧ gI hs 68 67 = nI mv ∧ mv < 256 ∧ (∀ k, m ≤ k → mv.testBit k = false) ∧ Fr wSee hM hs ∧ Fr wAs hS hx := by
  obtain ⟨m', r, o, hR, hA⟩ := Inv_RA h
  have hG := Inv_G hE
  obtain ⟨hG0, hr, hL, -⟩ := id hE
  obtain ⟨⟨l1, l2⟩, ⟨l3, l4⟩, ⟨l5, l6⟩, l7, l8, l9, l10, l11, l12, l13⟩ := id hL
  obtain ⟨hs, mv, s1, s2, s3, s4, s5⟩ := eSee (N := N) hN hR l2 l6 y1 y2
  have fr0 : Fr wPr hS (sI (sI (sI hS 33 0 (gI hS G 0)) 33 1 (gI hS G 1)) 33 2 0) := ((Fr.rfl.sI 33 0 _ rfl).sI 33 1 _ rfl).sI 33 2 _ rfl
  have e1 : gI (sI hS 33 0 (gI hS G 0)) G 1 = gI hS G 1 := by rcases hG with rfl | rfl <;> rfl
  have key := lPrep (N := N) hN (G := G) hR hA l2 hy1 hy2 (fun z => ∃ hx mv', z = some hx ∧ Fr wAs hS hx ∧ gI hx 33 0 = nI n ∧ gI hx 33 1 = nI m ∧ gI hx 33 2 = nI mv' ∧ SVm hM y1 y2 mv' m ∧ (∀ k, k < m → mv'.testBit k = true → loV hM y1 y2 k (gI hx 36 k) ∧ hiV hM y1 y2 k (gI hx 37 k)) ∧ (∀ q, q < 48 → gI hx 34 q = gI hM 88 q) ∧ (∀ q, q < 6 → gI hx 35 q = gI hS (G + 2) q) ∧ (∀ c k, c ≤ n → k < 8 → (gI hx 38 (8 * c + k)).toInt = mn (fun c k => (gI hM 88 (8 * c + k)).toInt) k n - mn (fun c k => (gI hM 88 (8 * c + k)).toInt) k c ∧ (gI hx 39 (8 * c + k)).toInt = mx (fun c k => (gI hM 88 (8 * c + k)).toInt) k n - mx (fun c k => (gI hM 88 (8 * c + k)).toInt) k c)) (fun y mv' f fr g0 g1 g2 sv lh => by
    unfold F_Asked_prepare_24
    rw [g1, if_pos (by rw [nN_le (by omega) (by omega)]; omega), if_pos (by decide), if_pos (by decide)]
    have c48 : iN (nI 48) = 48 := iN_nI (by omega)
    have c6 : iN (nI 6) = 6 := iN_nI (by omega)
    have c0 : iN (0 : Int32) = 0 := rfl
    rw [c48, c6, c0]
    dsimp only
    have gu : ∀ q, q < 48 → gI y (G + 1) q = gI hM 88 q := fun q hq => by rw [← (l7 q hq).1]; exact fr.i _ _ (by rcases hG with rfl | rfl <;> rfl)
    have gn : ∀ q, gI y (G + 2) q = gI hS (G + 2) q := fun q => fr.i _ _ (by rcases hG with rfl | rfl <;> rfl)
    have f1 : Fr wAs hS (cI (cI y (G + 1) 34 0 0 48) (G + 2) 35 0 0 6) := ((fr.mono (W' := wAs) (fun c k q => by unfold wAs at q; simp at q; exact q.1.1)).cI _ _ _ _ _ (fun k _ _ => by simp [wAs])).cI _ _ _ _ _ (fun k _ _ => by simp [wAs])
    have u34 : ∀ q, q < 48 → gI (cI (cI y (G + 1) 34 0 0 48) (G + 2) 35 0 0 6) 34 q = gI hM 88 q := fun q hq => by
      rw [gI_cI, if_neg (by omega), gI_cI, if_pos ⟨rfl, by omega, by omega⟩, ← gu q hq]
      congr 1; omega
    have u35 : ∀ q, q < 6 → gI (cI (cI y (G + 1) 34 0 0 48) (G + 2) 35 0 0 6) 35 q = gI hS (G + 2) q := fun q hq => by
      rw [gI_cI, if_pos ⟨rfl, by omega, by omega⟩, gI_cI, if_neg (by rcases hG with rfl | rfl <;> omega), ← gn q]
      congr 1; omega
    have k33 : ∀ q, gI (cI (cI y (G + 1) 34 0 0 48) (G + 2) 35 0 0 6) 33 q = gI y 33 q := fun q => by rw [gI_cI, if_neg (by omega), gI_cI, if_neg (by omega)]
    obtain ⟨hx, b1, b2, b3⟩ := eBound (N := N) hN (U := fun c k => (gI hM 88 (8 * c + k)).toInt) l1 (h0 := cI (cI y (G + 1) 34 0 0 48) (G + 2) 35 0 0 6) (fun c k hc hk => by
      rw [u34 _ (by omega)]
      have := (l7 (8 * c + k) (by omega)).2
      exact ⟨rfl, by omega⟩) (by rw [k33, g0, l3])
    rw [b1, bnd_some]
    have k3637 : ∀ k, gI hx 36 k = gI y 36 k ∧ gI hx 37 k = gI y 37 k := fun k => by
      rw [b2.i 36 k rfl, b2.i 37 k rfl]
      exact ⟨rfl, rfl⟩
    refine ⟨hx, mv', rfl, f1.trans (b2.mono (fun c k q => by unfold wAs at q; unfold w38; simp at q ⊢; omega)), by rw [b2.i 33 0 rfl, k33, g0, l3], by rw [b2.i 33 1 rfl, k33, g1], by rw [b2.i 33 2 rfl, k33, g2], sv, fun k hk hb => by rw [(k3637 k).1, (k3637 k).2]; exact lh k hk hb, fun q hq => by rw [b2.i 34 q rfl]; exact u34 q hq, fun q hq => by rw [b2.i 35 q rfl]; exact u35 q hq, b3⟩) m 0 (N + 1) 0 (sI (sI (sI hS 33 0 (gI hS G 0)) 33 1 (gI hS G 1)) 33 2 0) (by omega) (by omega) fr0 rfl (by show gI hS G 1 = _; exact l5) rfl ⟨by omega, fun k hk => by simp⟩ (fun j hj => by omega)
  obtain ⟨hx, mv', k1, k2, k3, k4, k5, k6, k7, k8, k9, k10⟩ := key
  have emv : mv' = mv := set_ext k6.1 s4.1 (fun k hk => by rw [Bool.eq_iff_iff, k6.2 k hk, s4.2 k hk])
  subst emv
  have fxv : Fr vS hS hx := k2.mono (fun c k q => by unfold vS at q; unfold wAs wPr; simp at q ⊢; omega)
  have fsv : Fr vM hM hs := s2.mono (fun _ _ => wSee_v)
  refine ⟨hx, hs, mv', ?_, s1, fxv, fsv, ?_, ?_, k5, s3, s4.1, fun k hk => ?_, s2, k2⟩
  · have k1' : L_Asked_prepare N (N + 1) G (nI y1) (nI y2) (nI 0) (sI (sI (sI hS 33 0 (gI hS G 0)) 33 1 (gI hS G 1)) 33 2 0) = some hx := k1
    show F_Asked_prepare_0 N (L_Asked_prepare N N) G (nI y1) (nI y2) hS = _
    unfold F_Asked_prepare_0
    dsimp only
    rw [e1]
    exact k1'
  · refine ⟨l1, l2, k3, k4, fun c k hc hk => ?_, fun a ha => ?_, fun k hk hb => ?_, k10⟩
    · rw [k8 _ (by omega)]
      have := (l7 (8 * c + k) (by omega)).2
      exact ⟨rfl, by show ((gI hM 88 (8 * c + k)).toInt).natAbs ≤ 9; omega⟩
    · obtain ⟨st, st1, st2, st3⟩ := l9 a ha
      refine ⟨st, st1, by rw [k9 a ha]; exact st2, fun b hb => ?_⟩
      show st.testBit b = decide (gI hM 89 (6 * a + b) = 1)
      rw [st3 b hb]
      cases st.testBit b <;> rfl
    · have hk' : k < m := hk
      obtain ⟨v1, v2⟩ := ((k6.2 k (by omega)).mp hb).2
      obtain ⟨p1, p2⟩ := k7 k hk hb
      obtain ⟨q1, q2⟩ := s5 k hk hb
      rw [loV_eq v1 v2 p1 q1, hiV_eq v1 v2 p2 q2]
      obtain ⟨b1, b2⟩ := lhV_bd hR v1 v2 q1 q2
      exact ⟨rfl, rfl, b1, b2⟩
  · refine ⟨l1, l2, by rw [s2.i 68 32 rfl]; exact l4, by rw [s2.i 68 33 rfl]; exact l6, fun c k hc hk => ?_, fun a b ha hb => ?_, fun k hk => ⟨rfl, rfl⟩⟩
    · rw [s2.i 88 _ rfl]
      have := (l7 (8 * c + k) (by omega)).2
      exact ⟨rfl, by show ((gI hM 88 (8 * c + k)).toInt).natAbs ≤ 9; omega⟩
    · rw [s2.i 89 _ rfl]
      obtain ⟨st, st1, st2, st3⟩ := l9 a ha
      show gI hM 89 (6 * a + b) = if decide (gI hM 89 (6 * a + b) = 1) = true then 1 else 0
      rw [st3 b hb]
      cases st.testBit b <;> rfl
  · by_cases kq : k < 8
    · cases z : mv'.testBit k
      · rfl
      · exact absurd ((s4.2 k kq).mp z).1 (by omega)
    · exact Nat.testBit_lt_two_pow (Nat.lt_of_lt_of_le s4.1 (Nat.pow_le_pow_right (n := 2) (i := 8) (by omega) (by omega)))
