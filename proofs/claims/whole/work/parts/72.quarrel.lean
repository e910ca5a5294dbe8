/-! SLIPS: quarrel, both sides -/
theorem VT_vld {P : PB} {s a : Nat} : VT P s a ↔ ∃ k, k < 10 ^ P.1 ∧ vld P s a k := by
  constructor
  · rintro ⟨y, y9, y1, y2⟩
    have lt := bs_lt (n := P.1) y9 P.1 (Nat.le_refl _)
    rw [Nat.sub_self, Nat.pow_zero] at lt
    have e : ∀ i, i < P.1 → dg P.1 (bs P.1 y P.1) i = y i := fun i hi => by
      have := bs_dg (n := P.1) y9 P.1 0 (Nat.le_refl _) (Nat.pow_pos (by omega)) i hi
      rw [Nat.add_zero] at this; exact this
    refine ⟨bs P.1 y P.1, by omega, ⟨fun i j hij hi hb => ?_, fun k hk hb => ?_⟩⟩
    · rw [e i hi, e j (by omega)]; exact y1 i j hij hi hb
    · have := y2 k hk hb
      unfold okM at this ⊢
      rw [ps_congr (c := P.1) e]; exact this
  · rintro ⟨k, k1, k2, k3⟩
    exact ⟨dg P.1 k, dg9 P.1 k, k2, k3⟩
theorem sub_le {a w : Nat} (ha : a < 256) (h : subS a w) : a ≤ w := by
  have e : a &&& w = a := by
    apply Nat.eq_of_testBit_eq
    intro k
    rw [Nat.testBit_and]
    by_cases hk : k < 8
    · cases z : a.testBit k
      · rfl
      · rw [h k hk z]; rfl
    · rw [Nat.testBit_lt_two_pow (Nat.lt_of_lt_of_le ha (Nat.pow_le_pow_right (n := 2) (i := 8) (by omega) (by omega)))]; rfl
  rw [← e]; exact Nat.and_le_right
theorem sub_bits {a w : Nat} (ha : a < 256) (h : subS a w) (k : Nat) (q : a.testBit k = true) : w.testBit k = true := by
  rcases Nat.lt_or_ge k 8 with z | z
  · exact h k z q
  · rw [Nat.testBit_lt_two_pow (Nat.lt_of_lt_of_le ha (Nat.pow_le_pow_right (n := 2) (i := 8) (by omega) z))] at q; exact absurd q (by decide)
def UQ (P : PB) (s mv a : Nat) : Prop := subS a mv ∧ ¬ VT P s a
theorem eFindQ {N : Nat} (hN : 1000 < N) {P : PB} {mv s : Nat} (hs : s ≤ 9) (hmv : mv < 256) (hmm : ∀ k, P.2.1 ≤ k → mv.testBit k = false) {h : MH} (as : AS P mv h) (hW : IvW h) (h33 : gI h 33 2 = nI mv) : ∃ h', f_Walk_findQuarrel N (nI s) h = some h' ∧ Fr vS h h' ∧ QS h' (qst (UQ P s mv) 256) := by
  have fr0 : Fr w42 h (sI h 42 0 (nI s)) := Fr.rfl.sI 42 0 _ rfl
  have as1 := AS_42 as fr0
  have hW1 := IvW_42 hW fr0
  have main : ∀ (d a f : Nat) (y : MH), a + d = 256 → d + 300 < f → Fr w47 (sI h 42 0 (nI s)) y → (∀ b, b < a → gI y 47 b = 0) → ∃ h', (L_Walk_findQuarrel N f).1 (nI a) y = some h' ∧ Fr vS h h' ∧ QS h' (qst (UQ P s mv) 256) := by
    intro d
    induction d with
    | zero =>
      intro a f y hd hf fr z
      obtain ⟨f, rfl⟩ : ∃ z, f = z + 1 := ⟨f - 1, by omega⟩
      have : a = 256 := by omega
      subst this
      show ∃ h', F_Walk_findQuarrel_7 N (L_Walk_findQuarrel N f) (nI 256) y = _ ∧ _
      unfold F_Walk_findQuarrel_7
      have asy : AS P mv y := AS_fr as1 (fr.mono (fun c k q => by simp [wW] at q; simp [w47]; omega))
      have hWy : IvW y := IvW_fr hW1 fr (fun k => rfl) (fun k _ => rfl)
      have p1 := as.1
      obtain ⟨h2, b1, b2, b3, b4, b5⟩ := eVisitSets (N := N) hN (P := P) (mv := mv) (s := s) hs hmm 8 0 mv (fun _ => 0) y (by omega) (by omega) asy ⟨fun i hi => absurd hi (by omega), fun i k hi hk => by
        have : i = 0 := by omega
        subst this
        have := as.2.1
        rw [show 8 * 0 + k = k by omega, hWy.2 k (by omega)]
        rfl⟩ (fun _ => by omega) (by rw [fr.i 42 0 rfl]; rfl) hmv (fun _ q => q) (fun _ _ _ k _ hb _ => hb) (fun a b _ ha => absurd ha (by omega)) ⟨fun a ha => .inl (z a ha), fun a ha q => by rw [z a ha] at q; exact absurd q (by decide), fun a b ha _ _ q => by rw [z a ha] at q; exact absurd q (by decide)⟩
      have e33 : gI y 33 2 = nI mv := by rw [fr.i 33 2 rfl]; exact h33
      rw [if_pos (by decide), e33]
      have b1' : f_Walk_visitSets N 8 0 (nI mv) y = some h2 := b1
      rw [b1', bnd_some]
      dsimp only
      have hU : ∀ a, a < 256 → (UQ P s mv a ↔ subS a mv ∧ gI (sI (sI h2 42 13 9) 42 15 0) 47 a = 0) := fun a ha => by
        have e : gI (sI (sI h2 42 13 9) 42 15 0) 47 a = gI h2 47 a := rfl
        rw [e]
        constructor
        · rintro ⟨u1, u2⟩
          refine ⟨u1, ?_⟩
          rcases b3.1 a ha with q | q
          · exact q
          · exact absurd (b3.2.1 a ha q) u2
        · rintro ⟨u1, u2⟩
          refine ⟨u1, ?_⟩
          rintro ⟨v, v9, v1, v2⟩
          have := b5 v v9 (fun i hi => absurd hi (by omega)) v1 a ha u1 v2
          rw [u2] at this; exact absurd this (by decide)
      have f33 : gI (sI (sI h2 42 13 9) 42 15 0) 33 2 = nI mv := by
        have e : gI (sI (sI h2 42 13 9) 42 15 0) 33 2 = gI h2 33 2 := rfl
        rw [e, b2.i 33 2 rfl]; exact e33
      obtain ⟨h', c1, c2, c3⟩ := lQuarS (N := N) hmv f33 hU 256 0 (f + 1) _ (by omega) (by omega) Fr.rfl ⟨rfl, rfl⟩
      refine ⟨h', c1, ?_, c3⟩
      refine (fr0.mono (fun _ _ => w42_W)).trans ((fr.mono (fun c k q => ?_)).trans ((b2.mono (fun c k q => ?_)).trans ((((Fr.rfl (W := vS) (h := h2)).sI 42 13 _ rfl).sI 42 15 _ rfl).trans (c2.mono (fun c k q => ?_)))))
      · unfold vS at q; unfold w47; simp at q ⊢; omega
      · unfold vS at q; unfold wV; simp at q ⊢; omega
      · unfold vS at q; unfold wU; simp at q ⊢; omega
    | succ d ih =>
      intro a f y hd hf fr z
      obtain ⟨f, rfl⟩ : ∃ z, f = z + 1 := ⟨f - 1, by omega⟩
      show ∃ h', F_Walk_findQuarrel_7 N (L_Walk_findQuarrel N f) (nI a) y = _ ∧ _
      unfold F_Walk_findQuarrel_7
      have ib : inB (nI a) 256 = true := by rw [inB_nI (by omega)]; omega
      rw [show (256 : Int32) = nI 256 from rfl, if_neg (by rw [nN_le (by omega) (by omega)]; omega), if_pos ib, iN_nI (by omega), show nI a + 1 = nI (a + 1) from nN_add a 1]
      refine ih (a + 1) f _ (by omega) (by omega) (fr.sI 47 a _ rfl) (fun b hb => ?_)
      rw [gI_sI]
      by_cases e : b = a
      · rw [if_pos ⟨rfl, e⟩]; decide
      · rw [if_neg (by omega)]; exact z b (by omega)
  exact main 256 0 (N + 1) _ (by omega) (by omega) Fr.rfl (fun b hb => absurd hb (Nat.not_lt_zero _))
def QM (a4 a5 a6 : Int32) : Option (Nat × Nat × Nat) → Prop
  | none => a4 = -1
  | some (L, S, C) => a4 = nI L ∧ a5 = nI S ∧ a6 = nI C
theorem lQuarM {N mv : Nat} (hN : 1000 < N) (hmv : mv < 256) {h : MH} (h67 : gI h 68 67 = nI mv) {U : Nat → Prop} (hU : ∀ a, a < 256 → (U a ↔ subS a mv ∧ gI h 106 a = 0)) (a3 : Int32) : ∀ (d A f : Nat) (a4 a5 a6 : Int32), A + d = mv + 1 → d < f → QM a4 a5 a6 (qst U A) → ∃ b4 b5 b6, QM b4 b5 b6 (qst U (mv + 1)) ∧ L_M_quarrel N f a3 a4 a5 a6 (nI A) h = some ((if a3 = 0 then b4 else if a3 = 1 then b5 else b6), sI h 68 0 0) := by
  intro d
  induction d with
  | zero =>
    intro A f a4 a5 a6 hd hf q
    obtain ⟨f, rfl⟩ : ∃ z, f = z + 1 := ⟨f - 1, by omega⟩
    have : A = mv + 1 := by omega
    subst this
    refine ⟨a4, a5, a6, q, ?_⟩
    show F_M_quarrel_78 N (L_M_quarrel N f) a3 a4 a5 a6 (nI (mv + 1)) h = _
    unfold F_M_quarrel_78 f_M_gives
    rw [h67, if_pos (by rw [nN_lt (by omega) (by omega)]; omega)]
    by_cases z : a3 = 0
    · rw [if_pos z, if_pos z]; rfl
    · rw [if_neg z, if_neg z]
      by_cases y : a3 = 1
      · rw [if_pos y, if_pos y]; rfl
      · rw [if_neg y, if_neg y]; rfl
  | succ d ih =>
    intro A f a4 a5 a6 hd hf q
    obtain ⟨f, rfl⟩ : ∃ z, f = z + 1 := ⟨f - 1, by omega⟩
    show ∃ b4 b5 b6, _ ∧ F_M_quarrel_78 N (L_M_quarrel N f) a3 a4 a5 a6 (nI A) h = _
    unfold F_M_quarrel_78
    have si := sub_I (a := A) (w := mv) (by omega) hmv
    have ib : inB (nI A) 256 = true := by rw [inB_nI (by omega)]; omega
    have u := hU A (by omega)
    rw [h67, if_neg (by rw [nN_lt (by omega) (by omega)]; omega)]
    by_cases z : subS A mv
    case neg =>
      rw [if_neg (fun w => z (si.mp w)), show nI A + 1 = nI (A + 1) from nN_add A 1]
      exact ih (A + 1) f a4 a5 a6 (by omega) (by omega) (by rw [qst_no (fun w => z (u.mp w).1)]; exact q)
    rw [if_pos (si.mpr z), if_pos ib, iN_nI (by omega)]
    by_cases y : gI h 106 A = 0
    case neg =>
      rw [if_neg y, show nI A + 1 = nI (A + 1) from nN_add A 1]
      exact ih (A + 1) f a4 a5 a6 (by omega) (by omega) (by rw [qst_no (fun w => y (u.mp w).2)]; exact q)
    rw [if_pos y, eBitsM hN (by omega), bnd_some]
    dsimp only
    have qy := qst_yes (u.mpr ⟨z, y⟩)
    have p8 : pb A ≤ 8 := (pb_d ⟨A, by omega⟩).2
    have new : ∃ b4 b5 b6, QM b4 b5 b6 (qst U (mv + 1)) ∧ (QM (nI (pb A)) (nI A) 1 (qst U (A + 1)) → F_M_quarrel_143 N (L_M_quarrel N f) a3 (nI (pb A)) (nI A) 0 (nI A) (nI (pb A)) h = some ((if a3 = 0 then b4 else if a3 = 1 then b5 else b6), sI h 68 0 0)) := by
      by_cases w : QM (nI (pb A)) (nI A) 1 (qst U (A + 1))
      · obtain ⟨b4, b5, b6, e1, e2⟩ := ih (A + 1) f (nI (pb A)) (nI A) 1 (by omega) (by omega) w
        refine ⟨b4, b5, b6, e1, fun _ => ?_⟩
        unfold F_M_quarrel_143
        rw [if_pos rfl, show (0 : Int32) + 1 = 1 from rfl, show nI A + 1 = nI (A + 1) from nN_add A 1]
        exact e2
      · cases e : qst U (mv + 1) with
        | none => exact ⟨-1, 0, 0, rfl, fun v => absurd v w⟩
        | some t => exact ⟨nI t.1, nI t.2.1, nI t.2.2, ⟨rfl, rfl, rfl⟩, fun v => absurd v w⟩
    have bd := qst_bd (U := U) A (by omega)
    cases e : qst U A with
    | none =>
      rw [e] at q qy
      have q' : a4 = -1 := q
      obtain ⟨b4, b5, b6, e1, e2⟩ := new
      rw [if_pos q']
      exact ⟨b4, b5, b6, e1, e2 (by rw [qy]; exact ⟨rfl, rfl, rfl⟩)⟩
    | some t =>
      obtain ⟨L, S, C⟩ := t
      have bd' := bd L S C e
      rw [e] at q qy
      obtain ⟨q1, q2, q3⟩ := q
      have ne : ¬ a4 = -1 := fun w => by
        rw [q1] at w
        have := congrArg Int32.toInt w
        rw [nN_toInt (by omega), show (-1 : Int32).toInt = -1 from rfl] at this
        omega
      rw [if_neg ne]
      by_cases l : pb A < L
      · obtain ⟨b4, b5, b6, e1, e2⟩ := new
        rw [if_neg (by rw [q1, nN_le (by omega) (by omega)]; omega)]
        refine ⟨b4, b5, b6, e1, e2 ?_⟩
        rw [qy]
        simp only [qup, l, if_true]
        exact ⟨rfl, rfl, rfl⟩
      · rw [if_pos (by rw [q1, nN_le (by omega) (by omega)]; omega)]
        unfold F_M_quarrel_143
        by_cases w : pb A = L
        · rw [if_pos (by rw [q1, w]), q3, show nI C + 1 = nI (C + 1) from nN_add C 1, show nI A + 1 = nI (A + 1) from nN_add A 1]
          refine ih (A + 1) f a4 a5 _ (by omega) (by omega) ?_
          rw [qy]
          simp only [qup]
          rw [if_neg l, if_pos w]
          exact ⟨q1, q2, rfl⟩
        · rw [if_neg (by rw [q1, nN_inj (by omega) (by omega)]; exact w), show nI A + 1 = nI (A + 1) from nN_add A 1]
          refine ih (A + 1) f a4 a5 _ (by omega) (by omega) ?_
          rw [qy]
          simp only [qup]
          rw [if_neg l, if_neg w]
          exact ⟨q1, q2, by rw [q3, Int32.add_zero]⟩
theorem qst_none {U : Nat → Prop} : ∀ A, qst U A = none → ∀ a, a < A → ¬ U a
  | 0, _, a, ha => absurd ha (Nat.not_lt_zero _)
  | A + 1, h, a, ha => fun u => by
    by_cases w : U A
    · rw [qst_yes w] at h; cases h
    · rw [qst_no w] at h
      by_cases z : a = A
      · subst z; exact w u
      · exact qst_none A h a (by omega) u
theorem op_quarrel {N : Nat} (hN : 20000000 < N) {hS hM : MH} (h : Inv2 hS hM) (a1 a2 a3 : Int32) : OK2 hS hM (f_S_quarrel N a1 a2 a3 hS) (f_M_quarrel N a1 a2 a3 hM) := by
  obtain ⟨G, n, m, hE, hn, hm, eG, e1, e2, e3, e4⟩ := Inv_nm h
  unfold f_S_quarrel f_M_quarrel F_M_quarrel_0 f_S_refuse f_M_refuse f_S_answer
  simp only [eS_areYears, eM_areYears, eS_isOneOf, bnd_some, bz, eG, e1, e2, e3, e4]
  by_cases g1 : (0 ≤ a1 ∧ a1 < 20) ∧ (0 ≤ a2 ∧ a2 < 20) ∧ a1 < a2
  case neg =>
    simp only [g1, not_false_eq_true, if_true]
    exact OK2_st h Fr.rfl Fr.rfl _ _
  rw [if_neg (not_not_intro g1), if_neg (not_not_intro g1)]
  by_cases g3 : 0 ≤ a3 ∧ a3 < 3
  case neg =>
    rw [if_pos g3]
    by_cases g4 : a3 < 0
    · rw [if_pos g4]
      exact OK2_st h Fr.rfl Fr.rfl _ _
    · have g6 : ¬ a3 ≤ 2 := by grind
      rw [if_neg g4, if_neg g6]
      exact OK2_st h Fr.rfl Fr.rfl _ _
  have g5 : ¬ a3 < 0 := by grind
  have g6 : a3 ≤ 2 := by grind
  rw [if_neg (not_not_intro g3), if_neg g5, if_pos g6]
  by_cases g2 : n = 0
  · subst g2
    rw [if_pos (show nI 0 = 0 from rfl), if_pos (show nI 0 = 0 from rfl)]
    exact OK2_st h Fr.rfl Fr.rfl _ _
  have g2' : ¬ nI n = 0 := by rw [show (0 : Int32) = nI 0 from rfl, nN_inj (by omega) (by omega)]; exact g2
  rw [if_neg g2', if_neg g2']
  obtain ⟨y1, y2, l1, l2, rfl, rfl⟩ := yr2 g1
  obtain ⟨hx, hs, mv, k1, k2, k3, k4, k5, k6, k7, k8, k9, k10, k11, k12⟩ := ePrep (N := N) (by omega) h hE l1 l2
  obtain ⟨s, s1, s2, s3⟩ := Inv_s h
  have hW : IvW hx := Inv_W (Inv_vol h k3 k4)
  obtain ⟨hz, b1, b2, b3⟩ := eFindQ (N := N) (by omega) (P := PBo hM hs n m) (s := s) s1 k9 k10 k5 hW k7
  obtain ⟨hq, c1, c2, c3⟩ := eFindSets (N := N) hN (P := PBo hM hs n m) s1 k9 k6 (by rw [k11.i 68 66 rfl]; exact s3) k8
  have fS := k3.trans b2
  have fM := k4.trans (c2.mono (fun _ _ => wC_v))
  have met : ∀ a, a < 256 → subS a mv → (gI hq 106 a = 0 ↔ ¬ VT (PBo hM hs n m) s a) := fun a ha sa => by
    have iff := Cm_vld (P := PBo hM hs n m) (s := s) (mv := mv) (a := a) hm (fun j q => sub_bits ha sa j q) k10
    rw [VT_vld, ← iff]
    rcases c3 a ha with ⟨t1, t2⟩ | ⟨t1, t2⟩
    · rw [t1]; exact ⟨fun q => absurd q (by decide), fun q => absurd t2 q⟩
    · exact ⟨fun _ => t2, fun _ => t1⟩
  have hU : ∀ a, a < 256 → (UQ (PBo hM hs n m) s mv a ↔ subS a mv ∧ gI hq 106 a = 0) := fun a ha => by
    unfold UQ
    constructor
    · rintro ⟨q1, q2⟩; exact ⟨q1, (met a ha q1).mpr q2⟩
    · rintro ⟨q1, q2⟩; exact ⟨q1, (met a ha q1).mp q2⟩
  have e256 : qst (UQ (PBo hM hs n m) s mv) 256 = qst (UQ (PBo hM hs n m) s mv) (mv + 1) := by
    have := qst_stay (U := UQ (PBo hM hs n m) s mv) (A := mv + 1) (256 - (mv + 1)) (fun a h1 h2 q => by have := sub_le (by omega) q.1; omega)
    rw [show mv + 1 + (256 - (mv + 1)) = 256 by omega] at this
    exact this
  have q67 : gI hq 68 67 = nI mv := by rw [c2.i 68 67 rfl]; exact k8
  have smv : subS mv mv := fun _ _ q => q
  have ib : inB (nI mv) 256 = true := by rw [inB_nI (by omega)]; exact k9
  rw [k1, bnd_some, k2, bnd_some, c1, bnd_some, k3.i 1 15 rfl, s2, b1, bnd_some, q67, if_pos ib, iN_nI (by omega)]
  rw [e256] at b3
  by_cases z : gI hq 106 mv = 0
  · rw [if_pos z]
    obtain ⟨b4, b5, b6, r1, r2⟩ := lQuarM (N := N) (by omega) k9 q67 hU a3 (mv + 1) 0 (N + 1) (-1) 0 0 (by omega) (by omega) rfl
    have r2' : F_M_quarrel_78 N (L_M_quarrel N N) a3 (-1) 0 0 0 hq = _ := r2
    rw [r2']
    cases e : qst (UQ (PBo hM hs n m) s mv) (mv + 1) with
    | none => exact absurd ((hU mv k9).mpr ⟨smv, z⟩) (qst_none _ e mv (by omega))
    | some t =>
      obtain ⟨L, S, C⟩ := t
      have bd := qst_bd (U := UQ (PBo hM hs n m) s mv) (mv + 1) (by omega) L S C e
      rw [e] at b3 r1
      obtain ⟨t1, t2, t3⟩ := b3
      obtain ⟨v1, v2, v3⟩ := r1
      rw [t1, t2, t3, v1, v2, v3, if_neg (show ¬ nI C = 0 by rw [show (0 : Int32) = nI 0 from rfl, nN_inj (by omega) (by omega)]; omega)]
      by_cases z0 : a3 = 0
      · rw [if_pos z0, if_pos z0]
        exact OK2_st h fS fM _ _
      · rw [if_neg z0, if_neg z0]
        by_cases z1 : a3 = 1
        · rw [if_pos z1, if_pos z1]
          exact OK2_st h fS fM _ _
        · rw [if_neg z1, if_neg z1]
          exact OK2_st h fS fM _ _
  · rw [if_neg z]
    have no : ∀ a, a < 256 → ¬ UQ (PBo hM hs n m) s mv a := fun a ha u => by
      have vm : VT (PBo hM hs n m) s mv := Classical.byContradiction (fun w => z ((met mv k9 smv).mpr w))
      obtain ⟨y, y9, w1, w2⟩ := vm
      exact u.2 ⟨y, y9, w1, fun k hk hb => w2 k hk (sub_bits ha u.1 k hb)⟩
    have e : qst (UQ (PBo hM hs n m) s mv) (mv + 1) = none := by
      have := qst_stay (U := UQ (PBo hM hs n m) s mv) (A := 0) (mv + 1) (fun a _ h2 => no a (by omega))
      rw [Nat.zero_add] at this
      exact this
    rw [e] at b3
    rw [if_pos b3.2]
    exact OK2_st h fS fM _ _
