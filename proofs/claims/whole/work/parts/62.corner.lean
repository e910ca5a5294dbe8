/-! SLIPS: corner -/
def CO (P : PB) (sm B : Nat) (b : Int32) : Prop := (b = -1 ∧ ∀ s k, k < B → ¬ vld P s sm k) ∨ ∃ w, w ≤ 9 ∧ b = nI w ∧ ∀ s, w ≤ s ↔ ∃ k, k < B ∧ vld P s sm k
theorem CO_no {P : PB} {sm B : Nat} {b : Int32} (c : CO P sm B b) (h : ∀ s, ¬ vld P s sm B) : CO P sm (B + 1) b := by
  rcases c with ⟨c1, c2⟩ | ⟨w, w1, w2, w3⟩
  · refine .inl ⟨c1, fun s k hk q => ?_⟩
    by_cases z : k = B
    · subst z; exact h s q
    · exact c2 s k (by omega) q
  · refine .inr ⟨w, w1, w2, fun s => ?_⟩
    rw [w3 s]
    constructor
    · rintro ⟨k, k1, k2⟩; exact ⟨k, by omega, k2⟩
    · rintro ⟨k, k1, k2⟩
      refine ⟨k, ?_, k2⟩
      rcases Nat.lt_or_ge k B with z | z
      · exact z
      · have : k = B := by omega
        subst this; exact absurd k2 (h s)
theorem CO_new {P : PB} {sm B w : Nat} {b : Int32} (hw : w ≤ 9) (h : ∀ s, w ≤ s ↔ vld P s sm B) (hb : ∀ s, w ≤ s ∨ (∃ k, k < B ∧ vld P s sm k) ↔ w ≤ s) : CO P sm (B + 1) (nI w) := by
  refine .inr ⟨w, hw, rfl, fun s => ?_⟩
  constructor
  · intro q; exact ⟨B, by omega, (h s).mp q⟩
  · rintro ⟨k, k1, k2⟩
    by_cases z : k = B
    · subst z; exact (h s).mpr k2
    · exact (hb s).mp (.inr ⟨k, by omega, k2⟩)
theorem lCorner {N : Nat} (hN : 1000 < N) {P : PB} {sm : Nat} (hsm : sm < 256) (hm : ∀ k, P.2.1 ≤ k → sm.testBit k = false) {h0 : MH} (p0 : PM P h0) (h67 : gI h0 68 67 = nI sm) : ∀ (d B f : Nat) (h : MH) (b : Int32), B + d = 10 ^ P.1 → d < f → Fr wC h0 h → CO P sm B b →
    ∃ h' b', L_M_corner N f b (nI (10 ^ P.1)) (nI B) h = (if b' = -1 then some (-1, sI h' 68 0 6) else some (b', sI h' 68 0 0)) ∧ Fr wC h0 h' ∧ CO P sm (10 ^ P.1) b' := by
  have hten := ten6 p0.1
  intro d
  induction d with
  | zero =>
    intro B f h b hd hf fr co
    obtain ⟨f, rfl⟩ : ∃ z, f = z + 1 := ⟨f - 1, by omega⟩
    have : B = 10 ^ P.1 := by omega
    subst this
    refine ⟨h, b, ?_, fr, co⟩
    show F_M_corner_45 N (L_M_corner N f) _ _ _ h = _
    unfold F_M_corner_45
    rw [if_pos (by rw [nN_le (by omega) (by omega)]; omega)]
    rfl
  | succ d ih =>
    intro B f h b hd hf fr co
    obtain ⟨f, rfl⟩ : ∃ z, f = z + 1 := ⟨f - 1, by omega⟩
    show ∃ h' b', F_M_corner_45 N (L_M_corner N f) b (nI (10 ^ P.1)) (nI B) h = _ ∧ _
    unfold F_M_corner_45
    have ph := PM_fr p0 fr
    obtain ⟨x1, a1, a2, a3⟩ := eLay (N := N) (by omega) ph (k := B) (by omega)
    have frx : Fr wC h0 x1 := fr.trans (a2.mono (fun c k q => by simp [wC] at q; simp [w103]; omega))
    have px := PM_fr p0 frx
    obtain ⟨w, b1, b2, b3⟩ := eBend (N := N) (by omega) px a3 (fun c _ => dg9 P.1 B c)
    obtain ⟨v, d1, d2⟩ := eFit (N := N) (by omega) px a3 (fun c => dg9 P.1 B c) hsm
    rw [if_neg (by rw [nN_le (by omega) (by omega)]; omega), a1, bnd_some, frx.i 68 67 rfl, h67, d1, bnd_some]
    dsimp only
    rw [frx.i 68 67 rfl, h67, show nI B + 1 = nI (B + 1) from nN_add B 1]
    have ev : (nI v = nI sm) = (v = sm) := nN_inj (by have := d2.1; omega) (by omega)
    by_cases c2 : v = sm
    case neg =>
      rw [if_neg (by rw [ev]; exact c2)]
      exact ih (B + 1) f x1 b (by omega) (by omega) frx (CO_no co (fun s z => c2 ((FT_all hsm hm d2).mpr z.2)))
    rw [if_pos (by rw [ev]; exact c2), b1, bnd_some]
    dsimp only
    have hv : ∀ s, w ≤ s ↔ vld P s sm B := fun s => ⟨fun q => ⟨(b3 s).mp q, (FT_all hsm hm d2).mp c2⟩, fun q => (b3 s).mpr q.1⟩
    rcases co with ⟨q1, q2⟩ | ⟨u, u1, u2, u3⟩
    · rw [if_pos q1]
      exact ih (B + 1) f x1 (nI w) (by omega) (by omega) frx (CO_new (b := b) b2 hv (fun s => ⟨fun y => by
        rcases y with y | ⟨k, k1, k2⟩
        · exact y
        · exact absurd k2 (q2 s k k1), .inl⟩))
    · have nb : ¬ b = -1 := fun y => by
        rw [u2] at y
        have := congrArg Int32.toInt y
        rw [nN_toInt (by omega), show (-1 : Int32).toInt = -1 from rfl] at this
        omega
      rw [if_neg nb]
      by_cases z : u ≤ w
      · rw [if_pos (by rw [u2, nN_le (by omega) (by omega)]; exact z)]
        refine ih (B + 1) f x1 b (by omega) (by omega) frx (.inr ⟨u, u1, u2, fun s => ?_⟩)
        constructor
        · intro y
          obtain ⟨k, k1, k2⟩ := (u3 s).mp y
          exact ⟨k, by omega, k2⟩
        · rintro ⟨k, k1, k2⟩
          by_cases zz : k = B
          · subst zz; have := (hv s).mpr k2; omega
          · exact (u3 s).mpr ⟨k, by omega, k2⟩
      · rw [if_neg (by rw [u2, nN_le (by omega) (by omega)]; exact z)]
        exact ih (B + 1) f x1 (nI w) (by omega) (by omega) frx (CO_new (b := b) b2 hv (fun s => ⟨fun y => by
          rcases y with y | y
          · exact y
          · have := (u3 s).mpr y; omega, .inl⟩))
theorem AS_both {P : PB} {mv : Nat} {h h' : MH} (p : AS P mv h) (f : Fr (fun c k => w42 c k || wB 0 c k) h h') : AS P mv h' := by
  obtain ⟨p1, p2, p3, p4, p5, p6, p7, p8⟩ := p
  refine ⟨p1, p2, by rw [f.i 33 0 rfl]; exact p3, by rw [f.i 33 1 rfl]; exact p4, fun c k hc hk => by rw [f.i 34 _ rfl]; exact p5 c k hc hk, fun a ha => by rw [f.i 35 _ rfl]; exact p6 a ha, fun k hk hb => by rw [f.i 36 _ rfl, f.i 37 _ rfl]; exact p7 k hk hb, fun c k hc hk => by rw [f.i 38 _ rfl, f.i 39 _ rfl]; exact p8 c k hc hk⟩
theorem IvW_both {h h' : MH} (p : IvW h) (f : Fr (fun c k => w42 c k || wB 0 c k) h h') : IvW h' := IvW_fr p f (fun k => rfl) (fun k hk => by simp [w42, wB]; omega)
theorem lCornerS {N : Nat} (hN : 1000 < N) {P : PB} {mv : Nat} (hn : 0 < P.1) (hmv : mv < 256) {b : Int32} (co : CO P mv (10 ^ P.1) b) {h0 : MH} : ∀ (d q f : Nat) (h : MH), q + d = 10 → d < f → Fr vS h0 h → AS P mv h → IvW h → gI h 33 2 = nI mv → (∀ s k, s < q → k < 10 ^ P.1 → ¬ vld P s mv k) →
    ∃ h', L_S_corner N f (nI q) h = (if b = -1 then some (-1, sI h' 1 12 6) else some (b, sI h' 1 12 0)) ∧ Fr vS h0 h' := by
  intro d
  induction d with
  | zero =>
    intro q f h hd hf fr as hW h33 no
    obtain ⟨f, rfl⟩ : ∃ z, f = z + 1 := ⟨f - 1, by omega⟩
    have : q = 10 := by omega
    subst this
    refine ⟨h, ?_, fr⟩
    show F_S_corner_50 N (L_S_corner N f) (nI 10) h = _
    unfold F_S_corner_50 f_S_refuse
    rw [if_pos (by decide)]
    rcases co with ⟨c1, c2⟩ | ⟨w, w1, w2, w3⟩
    · rw [if_pos c1]; rfl
    · obtain ⟨k, k1, k2⟩ := (w3 w).mp (Nat.le_refl _)
      exact absurd k2 (no w k (by omega) k1)
  | succ d ih =>
    intro q f h hd hf fr as hW h33 no
    obtain ⟨f, rfl⟩ : ∃ z, f = z + 1 := ⟨f - 1, by omega⟩
    show ∃ h', F_S_corner_50 N (L_S_corner N f) (nI q) h = _ ∧ _
    unfold F_S_corner_50 f_S_answer
    obtain ⟨h', b1, b2, b3, b4⟩ := eFinds (N := N) (by omega) (P := P) (s := q) (sm := mv) (by omega) hn as hW hmv (fun _ q => q)
    rw [if_neg (by rw [show (9 : Int32) = nI 9 from rfl, nN_lt (by omega) (by omega)]; omega), h33, b1, bnd_some, show nI q + 1 = nI (q + 1) from nN_add q 1]
    dsimp only
    rcases b3 with ⟨z, y⟩ | ⟨z, k0, q1, q2, q3⟩
    · rw [if_pos (by rw [z]; decide)]
      refine ih (q + 1) f h' (by omega) (by omega) (fr.trans b2) (AS_both as b4) (IvW_both hW b4) (by rw [b4.i 33 2 rfl]; exact h33) (fun s k hs hk => ?_)
      by_cases e : s = q
      · subst e; exact y k hk
      · exact no s k (by omega) hk
    · have z' : ¬ gI h' 42 4 ≤ 0 := by grind
      rw [if_neg (by rw [if_neg z']; decide)]
      refine ⟨h', ?_, fr.trans b2⟩
      rcases co with ⟨c1, c2⟩ | ⟨w, w1, w2, w3⟩
      · exact absurd q1.1 (c2 q k0 q2)
      · have wq : w ≤ q := (w3 q).mpr ⟨k0, q2, q1.1⟩
        have : w = q := by
          rcases Nat.lt_or_ge w q with e | e
          · obtain ⟨k, k1, k2⟩ := (w3 w).mp (Nat.le_refl _)
            exact absurd k2 (no w k e k1)
          · omega
        have nb : ¬ b = -1 := fun y => by
          rw [w2] at y
          have := congrArg Int32.toInt y
          rw [nN_toInt (by omega), show (-1 : Int32).toInt = -1 from rfl] at this
          omega
        rw [if_neg nb, w2, this]
        rfl
theorem op_corner {N : Nat} (hN : 20000000 < N) {hS hM : MH} (h : Inv2 hS hM) (a1 a2 : Int32) : OK2 hS hM (f_S_corner N a1 a2 hS) (f_M_corner N a1 a2 hM) := by
  obtain ⟨G, n, m, hE, hn, hm, eG, e1, e2, e3, e4⟩ := Inv_nm h
  unfold f_S_corner f_M_corner F_S_corner_0 F_M_corner_0 f_S_refuse f_M_refuse
  simp only [eS_areYears, eM_areYears, bnd_some, bz, eG, e1, e3]
  by_cases g1 : (0 ≤ a1 ∧ a1 < 20) ∧ (0 ≤ a2 ∧ a2 < 20) ∧ a1 < a2
  case neg =>
    simp only [g1, not_false_eq_true, if_true]
    exact OK2_st h Fr.rfl Fr.rfl _ _
  rw [if_neg (not_not_intro g1), if_neg (not_not_intro g1)]
  by_cases g2 : n = 0
  · subst g2
    rw [if_pos (show nI 0 = 0 from rfl), if_pos (show nI 0 = 0 from rfl)]
    exact OK2_st h Fr.rfl Fr.rfl _ _
  have g2' : ¬ nI n = 0 := by rw [show (0 : Int32) = nI 0 from rfl, nN_inj (by omega) (by omega)]; exact g2
  rw [if_neg g2', if_neg g2']
  obtain ⟨y1, y2, l1, l2, rfl, rfl⟩ := yr2 g1
  obtain ⟨hx, hs, mv, k1, k2, k3, k4, k5, k6, k7, k8, k9, k10, k11, k12⟩ := ePrep (N := N) (by omega) h hE l1 l2
  have hW : IvW hx := Inv_W (Inv_vol h k3 k4)
  have ht := ten6 hn
  rw [k1, bnd_some, k2, bnd_some, eRows (N := N) (by omega) k6, bnd_some]
  dsimp only
  obtain ⟨hq, b, c1, c2, c3⟩ := lCorner (N := N) (by omega) k9 k10 k6 k8 (10 ^ n) 0 (N + 1) hs (-1) (by show 0 + 10 ^ n = 10 ^ n; omega) (by omega) Fr.rfl (.inl ⟨rfl, fun s k hk => absurd hk (Nat.not_lt_zero _)⟩)
  obtain ⟨hz, d1, d2⟩ := lCornerS (N := N) (by omega) (P := PBo hM hs n m) (by show 0 < n; omega) k9 c3 (h0 := hS) 10 0 (N + 1) hx (by omega) (by omega) k3 k5 hW k7 (fun s k hk => absurd hk (Nat.not_lt_zero _))
  have c1' : F_M_corner_45 N (L_M_corner N N) (-1) (nI (10 ^ (PBo hM hs n m).1)) 0 hs = _ := c1
  have d1' : F_S_corner_50 N (L_S_corner N N) 0 hx = _ := d1
  rw [c1', d1']
  have fM := k4.trans (c2.mono (fun _ _ => wC_v))
  by_cases z : b = -1
  · rw [if_pos z, if_pos z]
    exact OK2_st h d2 fM _ _
  · rw [if_neg z, if_neg z]
    exact OK2_st h d2 fM _ _
