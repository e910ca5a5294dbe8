/-! SLIPS: slips, ends, first, odds -/
theorem eS_isSetOfCells (N : Nat) (a : Int32) (h : MH) {n : Nat} (hn : n ≤ 6) (e : gI h (gR h 1 11) 0 = nI n) : f_S_isSetOfCells N a h = some (if 1 ≤ a ∧ a < nI (2 ^ n) then 1 else 0, h) := by
  unfold f_S_isSetOfCells
  rw [eS_isWithin, bnd_some, e, shl_n (by omega)]
  have hp : 0 < 2 ^ n := Nat.pow_pos (by omega)
  have h256 := p256 (show n ≤ 8 by omega)
  obtain ⟨k, hk⟩ : ∃ k, 2 ^ n = k + 1 := ⟨2 ^ n - 1, by omega⟩
  have e2 : (1 ≤ a ∧ a ≤ nI (2 ^ n) - 1) = (1 ≤ a ∧ a < nI (2 ^ n)) := by
    rw [hk, show nI (k + 1) - 1 = nI k by rw [← nN_add]; show nI k + 1 - 1 = nI k; grind]
    apply propext
    rw [Int32.le_iff_toInt_le, Int32.le_iff_toInt_le, Int32.lt_iff_toInt_lt, nN_toInt (by omega), nN_toInt (by omega)]
    omega
  simp only [e2]
  rw [nar_bz]
theorem eM_areCells (N : Nat) (a : Int32) (h : MH) {n : Nat} (hn : n ≤ 6) (e : gI h 68 32 = nI n) : f_M_areCells N a h = some (if 1 ≤ a ∧ a < nI (2 ^ n) then 1 else 0, h) := by
  unfold f_M_areCells
  rw [e, shl_n (by omega), iteR, some_ite]
theorem yr2 {a b : Int32} (h : (0 ≤ a ∧ a < 20) ∧ (0 ≤ b ∧ b < 20) ∧ a < b) : ∃ y1 y2, y1 < 20 ∧ y2 < 20 ∧ a = nI y1 ∧ b = nI y2 := by
  obtain ⟨y1, a1, a2⟩ := rng (n := 20) (by omega) h.1
  obtain ⟨y2, b1, b2⟩ := rng (n := 20) (by omega) h.2.1
  exact ⟨y1, y2, a1, b1, a2, b2⟩
theorem op_slips {N : Nat} (hN : 20000000 < N) {hS hM : MH} (h : Inv2 hS hM) (a1 a2 : Int32) : OK2 hS hM (f_S_slips N a1 a2 hS) (f_M_slips N a1 a2 hM) := by
  obtain ⟨G, n, m, hE, hn, hm, eG, e1, e2, e3, e4⟩ := Inv_nm h
  unfold f_S_slips f_M_slips f_S_refuse f_M_refuse f_S_answer f_M_gives
  simp only [eS_areYears, eM_areYears, bnd_some, bz, eG, e1, e3]
  by_cases g1 : (0 ≤ a1 ∧ a1 < 20) ∧ (0 ≤ a2 ∧ a2 < 20) ∧ a1 < a2
  case neg =>
    simp only [g1, not_false_eq_true, if_true]
    exact OK2_st h Fr.rfl Fr.rfl _ _
  rw [if_neg (not_not_intro g1), if_neg (not_not_intro g1)]
  by_cases g2 : n = 0
  · subst g2
    rw [if_pos (show nI 0 = 0 from rfl), if_pos (show nI 0 = 0 from rfl)]
    exact OK2_st h Fr.rfl Fr.rfl _ _
  have g2' : ¬ nI n = 0 := by rw [show (0 : Int32) = nI 0 from rfl, nN_inj (by omega) (by omega)]; exact g2
  rw [if_neg g2', if_neg g2']
  obtain ⟨y1, y2, l1, l2, rfl, rfl⟩ := yr2 g1
  obtain ⟨P, s, mv, hx, hs, hq, p1, p2, b1, b2, b3, b4, b5, b6, b7⟩ := eBoth (N := N) hN h hE (by omega) l1 l2 (set := 0) (need := 0) (Nat.pow_pos (by omega)) (by omega)
  have b1' : f_S_walkAll N (nI y1) (nI y2) 0 0 hS = some hx := b1
  have b3' : f_M_count N (gI hs 68 67) 0 hs = some (nJ (cn (vld P s mv) (10 ^ n)), hq) := b3
  have ht := ten6 hn
  have hc := cn_le (vld P s mv) (10 ^ n)
  rw [b1', bnd_some, b2, bnd_some, b3', bnd_some, (b6.2 rfl).1, nJ_32 (by omega)]
  exact OK2_st h b4 b5 _ _
theorem op_first {N : Nat} (hN : 20000000 < N) {hS hM : MH} (h : Inv2 hS hM) (a1 a2 a3 : Int32) : OK2 hS hM (f_S_first N a1 a2 a3 hS) (f_M_first N a1 a2 a3 hM) := by
  obtain ⟨G, n, m, hE, hn, hm, eG, e1, e2, e3, e4⟩ := Inv_nm h
  unfold f_S_first f_M_first f_S_refuse f_M_refuse f_S_answer f_M_gives
  simp only [eS_areYears, eM_areYears, eS_isCell, eM_isCell, bnd_some, bz, eG, e1, e3]
  by_cases g1 : (0 ≤ a1 ∧ a1 < 20) ∧ (0 ≤ a2 ∧ a2 < 20) ∧ a1 < a2
  case neg =>
    simp only [g1, not_false_eq_true, if_true]
    exact OK2_st h Fr.rfl Fr.rfl _ _
  rw [if_neg (not_not_intro g1), if_neg (not_not_intro g1)]
  by_cases g2 : 0 ≤ a3 ∧ a3 < nI n
  case neg =>
    simp only [g2, not_false_eq_true, if_true]
    exact OK2_st h Fr.rfl Fr.rfl _ _
  rw [if_neg (not_not_intro g2), if_neg (not_not_intro g2)]
  obtain ⟨y1, y2, l1, l2, rfl, rfl⟩ := yr2 g1
  obtain ⟨c, hc, rfl⟩ := rng (by omega) g2
  obtain ⟨hx, hs, mv, k1, k2, k3, k4, k5, k6, k7, k8, k9, k10, k11, k12⟩ := ePrep (N := N) (by omega) h hE l1 l2
  obtain ⟨s, s1, s2, s3⟩ := Inv_s h
  have hW : IvW hx := Inv_W (Inv_vol h k3 k4)
  obtain ⟨hx', b1, b2, b3, -⟩ := eFinds (N := N) (by omega) (P := PBo hM hs n m) (sm := mv) s1 (by show 0 < n; omega) k5 hW k9 (fun _ q => q)
  obtain ⟨hq, c1, c2, c3⟩ := eCount (N := N) hN (P := PBo hM hs n m) (set := 0) s1 k9 k10 (by omega) k6 (by rw [k11.i 68 66 rfl]; exact s3)
  have c1' : f_M_count N (nI mv) 0 hs = some (nJ (cn (vld (PBo hM hs n m) s mv) (10 ^ n)), hq) := c1
  have fS := k3.trans b2
  have fM := k4.trans (c2.mono (fun _ _ => wC_v))
  have ht := ten6 hn
  have hcn := cn_le (vld (PBo hM hs n m) s mv) (10 ^ n)
  rw [k1, bnd_some, k2, bnd_some, k7, k8, k3.i 1 15 rfl, s2, b1, bnd_some, c1', bnd_some]
  dsimp only
  have cz : (lg_cmp (nJ (cn (vld (PBo hM hs n m) s mv) (10 ^ n))) 0 = 0) ↔ cn (vld (PBo hM hs n m) s mv) (10 ^ n) = 0 := by rw [cmp0, nJ_eq0 (by omega)]
  have ic : inB (nI c) 6 = true := by rw [inB_nI (by omega)]; omega
  rw [if_pos ic, if_pos ic, iN_nI (by omega)]
  rcases b3 with ⟨z, q⟩ | ⟨z, k0, q1, q2, q3⟩
  · rw [if_pos (by rw [z]; decide), if_pos (cz.mpr (cn_zero.mpr q))]
    exact OK2_st h fS fM _ _
  · have nz : ¬ cn (vld (PBo hM hs n m) s mv) (10 ^ n) = 0 := fun w => cn_zero.mp w k0 q2 q1.1
    have z' : ¬ gI hx' 42 4 ≤ 0 := by grind
    rw [if_neg (by rw [if_neg z']; decide), if_neg (fun w => nz (cz.mp w))]
    obtain ⟨k1', r1, r2, r3⟩ := c3.2 (by show 0 < cn _ (10 ^ n); omega)
    have ek : k1' = k0 := by
      rcases Nat.lt_trichotomy k1' k0 with w | w | w
      · exact absurd r2.1 (q1.2 _ w)
      · exact w
      · exact absurd q1.1 (r2.2 _ w)
    subst ek
    rw [q3 c hc, r3 c hc]
    exact OK2_st h fS fM _ _
theorem cn_split {f : Nat → Prop} {g : Nat → Nat} (q : Nat) : ∀ B, cn (fun k => f k ∧ q ≤ g k) B = cn (fun k => f k ∧ g k = q) B + cn (fun k => f k ∧ q + 1 ≤ g k) B
  | 0 => rfl
  | B + 1 => by
    have ih := cn_split (f := f) (g := g) q B
    by_cases w : f B
    · rcases Nat.lt_trichotomy (g B) q with z | z | z
      · rw [cn_no (f := fun k => f k ∧ q ≤ g k) (by intro y; have := y.2; omega), cn_no (f := fun k => f k ∧ g k = q) (by intro y; have := y.2; omega), cn_no (f := fun k => f k ∧ q + 1 ≤ g k) (by intro y; have := y.2; omega)]
        exact ih
      · rw [cn_yes (f := fun k => f k ∧ q ≤ g k) ⟨w, by omega⟩, cn_yes (f := fun k => f k ∧ g k = q) ⟨w, z⟩, cn_no (f := fun k => f k ∧ q + 1 ≤ g k) (by intro y; have := y.2; omega)]
        omega
      · rw [cn_yes (f := fun k => f k ∧ q ≤ g k) ⟨w, by omega⟩, cn_no (f := fun k => f k ∧ g k = q) (by intro y; have := y.2; omega), cn_yes (f := fun k => f k ∧ q + 1 ≤ g k) ⟨w, by omega⟩]
        omega
    · rw [cn_no (f := fun k => f k ∧ q ≤ g k) (fun y => w y.1), cn_no (f := fun k => f k ∧ g k = q) (fun y => w y.1), cn_no (f := fun k => f k ∧ q + 1 ≤ g k) (fun y => w y.1)]
      exact ih
theorem lOdds {N : Nat} {P : PB} {s sm set B : Nat} (p6 : P.1 ≤ 6) {h : MH} (mc : MCt P s sm set h B) (tot : Int64) : ∀ (d q f acc : Nat), q + d = 55 → d < f → L_M_odds N f tot (nJ acc) (nI q) h = (f_M_fraction N (nJ (acc + cn (fun k => vld P s sm k ∧ q ≤ sm6 set (dg P.1 k) P.1) B)) tot h).bind (fun x10 => some (x10.1, x10.2)) := by
  intro d
  induction d with
  | zero =>
    intro q f acc hd hf
    obtain ⟨f, rfl⟩ : ∃ z, f = z + 1 := ⟨f - 1, by omega⟩
    have : q = 55 := by omega
    subst this
    rw [cn_zero.mpr (fun i hi w => by have := sm6_le (set := set) (dg9 P.1 i) P.1; have := w.2; omega)]
    show F_M_odds_72 N (L_M_odds N f) tot (nJ acc) (nI 55) h = _
    unfold F_M_odds_72
    rw [if_pos (by decide)]
    rfl
  | succ d ih =>
    intro q f acc hd hf
    obtain ⟨f, rfl⟩ : ∃ z, f = z + 1 := ⟨f - 1, by omega⟩
    show F_M_odds_72 N (L_M_odds N f) tot (nJ acc) (nI q) h = _
    unfold F_M_odds_72
    rw [show (55 : Int32) = nI 55 from rfl, if_neg (by rw [nN_le (by omega) (by omega)]; omega), if_pos (by rw [inB_nI (by omega)]; omega), iN_nI (by omega), mc.1 q (by omega), nJ_add, show nI q + 1 = nI (q + 1) from nN_add q 1]
    dsimp only
    rw [ih (q + 1) f _ (by omega) (by omega), cn_split q B, Nat.add_assoc]
theorem op_odds {N : Nat} (hN : 20000000 < N) {hS hM : MH} (h : Inv2 hS hM) (a1 a2 a3 a4 : Int32) : OK2 hS hM (f_S_odds N a1 a2 a3 a4 hS) (f_M_odds N a1 a2 a3 a4 hM) := by
  obtain ⟨G, n, m, hE, hn, hm, eG, e1, e2, e3, e4⟩ := Inv_nm h
  unfold f_S_odds f_M_odds F_M_odds_0 f_S_refuse f_M_refuse
  have e1' : gI hS (gR hS 1 11) 0 = nI n := by rw [eG]; exact e1
  simp only [eS_areYears, eM_areYears, eS_isSetOfCells N a3 hS hn e1', eM_areCells N a3 hM hn e3, eS_isWithin, bnd_some, bz, iteV]
  by_cases g1 : (0 ≤ a1 ∧ a1 < 20) ∧ (0 ≤ a2 ∧ a2 < 20) ∧ a1 < a2
  case neg =>
    simp only [g1, not_false_eq_true, if_true]
    exact OK2_st h Fr.rfl Fr.rfl _ _
  rw [if_neg (not_not_intro g1), if_neg (not_not_intro g1)]
  by_cases g2 : 1 ≤ a3 ∧ a3 < nI (2 ^ n)
  case neg =>
    simp only [g2, not_false_eq_true, if_true]
    exact OK2_st h Fr.rfl Fr.rfl _ _
  rw [if_neg (not_not_intro g2), if_neg (not_not_intro g2)]
  by_cases g3 : 0 ≤ a4 ∧ a4 ≤ 54
  case neg =>
    simp only [g3, not_false_eq_true, if_true, if_false]
    exact OK2_st h Fr.rfl Fr.rfl _ _
  rw [if_neg (not_not_intro g3), if_pos g3]
  obtain ⟨y1, y2, l1, l2, rfl, rfl⟩ := yr2 g1
  have h256 := p256 (show n ≤ 8 by omega)
  obtain ⟨set, hset, rfl⟩ := rng (n := 2 ^ n) (by omega) ⟨by have := g2.1; grind, g2.2⟩
  obtain ⟨need, hneed, rfl⟩ := rngle (n := 54) (by omega) g3
  have hn0 : 0 < n := by
    rcases Nat.eq_zero_or_pos n with z | z
    · subst z
      have : set = 0 := by have : set < 1 := hset; omega
      subst this
      exact absurd g2.1 (by decide)
    · exact z
  obtain ⟨P, s, mv, hx, hs, hq, p1, p2, b1, b2, b3, b4, b5, b6, b7⟩ := eBoth (N := N) hN h hE hn0 l1 l2 hset hneed
  have ht := ten6 hn
  have hc := cn_le (vld P s mv) (10 ^ n)
  have hc2 := cn_le (fun k => vld P s mv k ∧ need ≤ sm6 set (dg P.1 k) P.1) (10 ^ n)
  obtain ⟨q1, q2, -⟩ := b6.2 rfl
  rw [b1, bnd_some, b2, bnd_some, b3, bnd_some]
  dsimp only
  rw [q1, q2]
  have cz : (lg_cmp (nJ (cn (vld P s mv) (10 ^ n))) 0 = 0) ↔ cn (vld P s mv) (10 ^ n) = 0 := by rw [cmp0, nJ_eq0 (by omega)]
  by_cases z : cn (vld P s mv) (10 ^ n) = 0
  · rw [if_pos (show nI (cn (vld P s mv) (10 ^ n)) = 0 by rw [z]; rfl), if_pos (cz.mpr z)]
    exact OK2_st h b4 b5 _ _
  · have z' : ¬ nI (cn (vld P s mv) (10 ^ n)) = 0 := by rw [show (0 : Int32) = nI 0 from rfl, nN_inj (by omega) (by omega)]; exact z
    rw [if_neg z', if_neg (fun w => z (cz.mp w)), nI_64 (by omega), nI_64 (by omega)]
    have lo := lOdds (N := N) (by omega) b7 (nJ (cn (vld P s mv) (10 ^ n))) (55 - need) need (N + 1) 0 (by omega) (by omega)
    have lo' : F_M_odds_72 N (L_M_odds N N) (nJ (cn (vld P s mv) (10 ^ n))) 0 (nI need) hq = _ := lo
    rw [lo', Nat.zero_add]
    have ok := OK2_fr (N := N) (by omega) h b4 b5 (t := nJ (cn (fun k => vld P s mv k ∧ need ≤ sm6 set (dg P.1 k) P.1) (10 ^ n))) (d := nJ (cn (vld P s mv) (10 ^ n))) (by rw [nJ_toInt (by omega)]; omega) (by rw [nJ_toInt (by omega)]; omega)
    obtain ⟨a, x, y, o1, o2, o3⟩ := ok
    rw [o1, o2]
    exact ⟨a, x, y, rfl, rfl, o3⟩
