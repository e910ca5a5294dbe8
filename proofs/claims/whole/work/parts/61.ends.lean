/-! SLIPS: ends -/
theorem cq_pos {f : Nat → Prop} {B : Nat} : cn f B ≠ 0 ↔ ∃ k, k < B ∧ f k := by
  constructor
  · intro h
    apply Classical.byContradiction
    intro w
    exact h (cn_zero.mpr (fun i hi q => w ⟨i, hi, q⟩))
  · rintro ⟨k, hk, q⟩ w
    exact cn_zero.mp w k hk q
theorem lEnds {N : Nat} {P : PB} {s sm set B : Nat} (p6 : P.1 ≤ 6) (hB : B ≤ 1000000) {h : MH} (mc : MCt P s sm set h B) {l m : Nat} (hl : l ≤ 54) (hm : m ≤ 54) (en : ENw P s sm set l m B) {a4 : Int32} (ha : a4 = 0 ∨ a4 = 1) : ∀ (d q f : Nat) (a5 : Int32), q + d = 55 → d < f → (a4 = 0 → (a5 = -1 ∧ q ≤ l) ∨ (a5 = nI l ∧ l < q)) → (a4 = 1 → q ≤ m ∨ a5 = nI m) → L_M_ends N f a4 a5 (nI q) h = some (nI (if a4 = 0 then l else m), sI h 68 0 0) := by
  obtain ⟨en1, en2, en3, en4⟩ := en
  intro d
  induction d with
  | zero =>
    intro q f a5 hd hf h0 h1
    obtain ⟨f, rfl⟩ : ∃ z, f = z + 1 := ⟨f - 1, by omega⟩
    have : q = 55 := by omega
    subst this
    show F_M_ends_66 N (L_M_ends N f) a4 a5 (nI 55) h = _
    unfold F_M_ends_66 f_M_gives
    rw [if_pos (by decide)]
    rcases ha with rfl | rfl
    · rw [if_pos rfl]
      rcases h0 rfl with w | w
      · exact absurd w.2 (by omega)
      · rw [w.1]; rfl
    · rw [if_neg (by decide)]
      rcases h1 rfl with w | w
      · exact absurd w (by omega)
      · rw [w]; rfl
  | succ d ih =>
    intro q f a5 hd hf h0 h1
    obtain ⟨f, rfl⟩ : ∃ z, f = z + 1 := ⟨f - 1, by omega⟩
    show F_M_ends_66 N (L_M_ends N f) a4 a5 (nI q) h = _
    unfold F_M_ends_66
    have hc := cn_le (fun k => vld P s sm k ∧ sm6 set (dg P.1 k) P.1 = q) B
    have cz : (lg_cmp (gJ h 107 q) 0 ≤ 0) ↔ cn (fun k => vld P s sm k ∧ sm6 set (dg P.1 k) P.1 = q) B = 0 := by rw [mc.1 q (by omega), cmp_le, nJ_le0 (by omega)]
    rw [show (55 : Int32) = nI 55 from rfl, if_neg (by rw [nN_le (by omega) (by omega)]; omega), if_pos (by rw [inB_nI (by omega)]; omega), iN_nI (by omega), show nI q + 1 = nI (q + 1) from nN_add q 1]
    dsimp only
    by_cases z : cn (fun k => vld P s sm k ∧ sm6 set (dg P.1 k) P.1 = q) B = 0
    · rw [if_pos (cz.mpr z)]
      have nl : q ≠ l := fun w => by
        obtain ⟨k, k1, k2, k3⟩ := en1
        exact cn_zero.mp z k k1 ⟨k2, by omega⟩
      have nm : q ≠ m := fun w => by
        obtain ⟨k, k1, k2, k3⟩ := en3
        exact cn_zero.mp z k k1 ⟨k2, by omega⟩
      refine ih (q + 1) f a5 (by omega) (by omega) (fun w => ?_) (fun w => ?_)
      · rcases h0 w with y | y
        · exact .inl ⟨y.1, by omega⟩
        · exact .inr ⟨y.1, by omega⟩
      · rcases h1 w with y | y
        · exact .inl (by omega)
        · exact .inr y
    · rw [if_neg (fun w => z (cz.mp w))]
      obtain ⟨k, k1, k2, k3⟩ := cq_pos.mp z
      have b1 := en2 k k1 k2
      have b2 := en4 k k1 k2
      have s1 : q ≤ m → q + 1 ≤ m ∨ nI q = nI m := fun w => by
        by_cases y : q = m
        · exact .inr (by rw [y])
        · exact .inl (by omega)
      by_cases n1 : a5 = -1
      · rw [if_pos n1]
        refine ih (q + 1) f (nI q) (by omega) (by omega) (fun w => ?_) (fun w => s1 (by omega))
        rcases h0 w with y | y
        · exact .inr ⟨by rw [show q = l by omega], by omega⟩
        · rw [y.1] at n1
          have := congrArg Int32.toInt n1
          rw [nN_toInt (by omega), show (-1 : Int32).toInt = -1 from rfl] at this
          omega
      · rw [if_neg n1]
        rcases ha with rfl | rfl
        · rw [if_neg (by decide)]
          refine ih (q + 1) f a5 (by omega) (by omega) (fun w => ?_) (fun w => absurd w (by decide))
          rcases h0 rfl with y | y
          · exact absurd y.1 n1
          · exact .inr ⟨y.1, by omega⟩
        · rw [if_pos rfl]
          exact ih (q + 1) f (nI q) (by omega) (by omega) (fun w => absurd w (by decide)) (fun w => s1 (by omega))
theorem op_ends {N : Nat} (hN : 20000000 < N) {hS hM : MH} (h : Inv2 hS hM) (a1 a2 a3 a4 : Int32) : OK2 hS hM (f_S_ends N a1 a2 a3 a4 hS) (f_M_ends N a1 a2 a3 a4 hM) := by
  obtain ⟨G, n, m, hE, hn, hm, eG, e1, e2, e3, e4⟩ := Inv_nm h
  unfold f_S_ends f_M_ends F_M_ends_0 f_S_refuse f_M_refuse f_S_answer
  have e1' : gI hS (gR hS 1 11) 0 = nI n := by rw [eG]; exact e1
  simp only [eS_areYears, eM_areYears, eS_isSetOfCells N a3 hS hn e1', eM_areCells N a3 hM hn e3, eS_isOneOf, bnd_some, bz, iteV]
  by_cases g1 : (0 ≤ a1 ∧ a1 < 20) ∧ (0 ≤ a2 ∧ a2 < 20) ∧ a1 < a2
  case neg =>
    simp only [g1, not_false_eq_true, if_true]
    exact OK2_st h Fr.rfl Fr.rfl _ _
  rw [if_neg (not_not_intro g1), if_neg (not_not_intro g1)]
  by_cases g2 : 1 ≤ a3 ∧ a3 < nI (2 ^ n)
  case neg =>
    simp only [g2, not_false_eq_true, if_true]
    exact OK2_st h Fr.rfl Fr.rfl _ _
  rw [if_neg (not_not_intro g2), if_neg (not_not_intro g2)]
  by_cases g3 : 0 ≤ a4 ∧ a4 < 2
  case neg =>
    have g3' : ¬ (0 ≤ a4 ∧ a4 ≤ 1) := by grind
    simp only [g3, g3', not_false_eq_true, if_true, if_false]
    exact OK2_st h Fr.rfl Fr.rfl _ _
  have g3' : 0 ≤ a4 ∧ a4 ≤ 1 := by grind
  rw [if_neg (not_not_intro g3), if_pos g3']
  obtain ⟨y1, y2, l1, l2, rfl, rfl⟩ := yr2 g1
  have h256 := p256 (show n ≤ 8 by omega)
  obtain ⟨set, hset, rfl⟩ := rng (n := 2 ^ n) (by omega) ⟨by have := g2.1; grind, g2.2⟩
  have ha : a4 = 0 ∨ a4 = 1 := by grind
  have hn0 : 0 < n := by
    rcases Nat.eq_zero_or_pos n with z | z
    · subst z
      have : set = 0 := by have : set < 1 := hset; omega
      subst this
      exact absurd g2.1 (by decide)
    · exact z
  obtain ⟨P, s, mv, hx, hs, hq, p1, p2, b1, b2, b3, b4, b5, b6, b7⟩ := eBoth (N := N) hN h hE hn0 l1 l2 hset (need := 0) (by omega)
  have ht := ten6 hn
  have hc := cn_le (vld P s mv) (10 ^ n)
  obtain ⟨q1, -, q2⟩ := b6.2 rfl
  have b1' : f_S_walkAll N (nI y1) (nI y2) (nI set) 0 hS = some hx := b1
  rw [b1', bnd_some, b2, bnd_some, b3, bnd_some]
  dsimp only
  rw [q1]
  have cz : (lg_cmp (nJ (cn (vld P s mv) (10 ^ n))) 0 = 0) ↔ cn (vld P s mv) (10 ^ n) = 0 := by rw [cmp0, nJ_eq0 (by omega)]
  by_cases z : cn (vld P s mv) (10 ^ n) = 0
  · rw [if_pos (show nI (cn (vld P s mv) (10 ^ n)) = 0 by rw [z]; rfl), if_pos (cz.mpr z)]
    exact OK2_st h b4 b5 _ _
  · have z' : ¬ nI (cn (vld P s mv) (10 ^ n)) = 0 := by rw [show (0 : Int32) = nI 0 from rfl, nN_inj (by omega) (by omega)]; exact z
    rw [if_neg z', if_neg (fun w => z (cz.mp w))]
    obtain ⟨l, k, w1, w2, w3, w4, w5⟩ := q2 (by omega)
    have le := lEnds (N := N) (by omega) (by omega) b7 w1 w2 w5 ha 55 0 (N + 1) (-1) (by omega) (by omega) (fun _ => .inl ⟨rfl, by omega⟩) (fun _ => .inl (by omega))
    have le' : F_M_ends_66 N (L_M_ends N N) a4 (-1) 0 hq = _ := le
    rw [le', w3, w4]
    by_cases z0 : a4 = 0
    · rw [if_pos z0, if_pos z0]
      exact OK2_st h b4 b5 _ _
    · rw [if_neg z0, if_neg z0]
      exact OK2_st h b4 b5 _ _
