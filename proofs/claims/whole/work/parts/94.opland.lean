/-! LAND: the call, both sides -/
theorem one_and {c : Prop} [Decidable c] : (if c then (1 : Int32) else 0) &&& 1 = if c then 1 else 0 := by split <;> rfl
theorem IvL_of {n : Nat} {B : Nat → Nat} {hS hM hS' hM' : MH} {D nc nm : Nat} (pr : PR n B hS hM D nc nm) (eS : ∀ c k, D ≤ c → c ≤ D + 5 → gI hS' c k = gI hS c k) (e32 : gI hM' 68 32 = gI hM 68 29) (e33 : gI hM' 68 33 = gI hM 68 30) (e89 : ∀ k, k < 36 → gI hM' 89 k = gI hM 82 k &&& 1) (e88 : ∀ k, k < 48 → gI hM' 88 k = gI hM 81 k) (e85 : ∀ k, k < 6 → gI hM' 85 k = gI hM 78 k ∧ gI hM' 86 k = gI hM 79 k ∧ gI hM' 87 k = gI hM 80 k) : IvL hS' hM' D nc nm := by
  obtain ⟨⟨-, -, ⟨nc6, nm8⟩, ⟨d0, d29⟩, ⟨d1, d30⟩⟩, ⟨du1, du2, -⟩, ⟨dn1, dn2, dn3, dn4⟩, ⟨ds1, -, -⟩, -⟩ := pr
  have n89 : ∀ a b, a < 6 → b < 6 → gI hM' 89 (6 * a + b) = gI hM 82 (6 * a + b) := fun a b ha hb => by
    obtain ⟨s, s1, s2, s3⟩ := dn1 a ha
    rw [e89 _ (by omega), s3 b hb, one_and]
  refine ⟨⟨nc6, nm8⟩, ⟨by rw [eS _ _ (by omega) (by omega)]; exact d0, by rw [e32]; exact d29⟩, ⟨by rw [eS _ _ (by omega) (by omega)]; exact d1, by rw [e33]; exact d30⟩, fun k hk => ?_, fun c k h1 h2 h3 => ?_, fun a ha => ?_, fun a b ha hb => ?_, fun a ha => ?_, fun a b h1 h2 h3 => ?_, fun c hc => ?_⟩
  · rw [eS _ _ (by omega) (by omega), e88 k hk]; exact du1 k hk
  · rw [e88 _ (by omega)]; exact du2 c k h1 h2 h3
  · obtain ⟨s, s1, s2, s3⟩ := dn1 a ha
    exact ⟨s, s1, by rw [eS _ _ (by omega) (by omega)]; exact s2, fun b hb => by rw [n89 a b ha hb]; exact s3 b hb⟩
  · rw [n89 a b ha hb, n89 b a hb ha]; exact dn2 a b ha hb
  · rw [n89 a a ha ha]; exact dn3 a ha
  · rw [n89 a b h2 h3]; exact dn4 a b h1 h2 h3
  · obtain ⟨q1, q2, q3⟩ := e85 c (by omega)
    rw [eS _ _ (by omega) (by omega), eS _ _ (by omega) (by omega), eS _ _ (by omega) (by omega), q1, q2, q3]
    exact ds1 c hc
theorem PR_0 {n : Nat} {B : Nat → Nat} {hS hM : MH} {D : Nat} (hD : D = 5 ∨ D = 54) (e9 : gR hS 3 9 = D) (j11 : gJ hS 3 11 = nJ 0) (e12 : gI hS 3 12 = nI 0) (e4 : gI hS 11 4 = nI 0) (d0 : gI hS D 0 = nI 0) (d1 : gI hS D 1 = nI 0) (u0 : ∀ k, k < 48 → gI hS (D + 1) k = 0) (v0 : ∀ k, k < 6 → gI hS (D + 2) k = 0 ∧ gI hS (D + 4) k = 100 ∧ gI hS (D + 5) k = 100) (m28 : gI hM 68 28 = nI 0) (m29 : gI hM 68 29 = nI 0) (m30 : gI hM 68 30 = nI 0) (m82 : ∀ k, k < 36 → gI hM 82 k = 0) (m81 : ∀ k, k < 48 → gI hM 81 k = 0 ∧ gI hM 84 k = 0) : PR n B hS hM D 0 0 := by
  refine ⟨⟨hD, e9, ⟨by omega, by omega⟩, ⟨d0, m29⟩, ⟨d1, m30⟩⟩, ⟨fun k hk => ?_, fun c k _ h2 h3 => (m81 _ (by omega)).1, 0, by decide, j11, fun p hp => ?_⟩, ⟨fun a ha => ⟨0, by omega, (v0 a ha).1, fun b hb => ?_⟩, fun a b ha hb => ?_, fun a ha => m82 _ (by omega), fun a b _ h2 h3 => m82 _ (by omega)⟩, ⟨fun c hc => absurd hc (Nat.not_lt_zero _), fun c _ h2 => ⟨(v0 c h2).2.1, (v0 c h2).2.2⟩, 0, by omega, e12, fun c hc => absurd hc (Nat.not_lt_zero _), fun c _ => Nat.zero_testBit c⟩, 0, 0, fun _ => 0, fun _ => 0, ?_⟩
  · rw [u0 k hk, (m81 k hk).1]; exact ⟨rfl, by decide, by decide⟩
  · rw [(m81 p hp).2, Nat.zero_testBit]; rfl
  · rw [m82 _ (by omega), Nat.zero_testBit]; rfl
  · rw [m82 _ (by omega), m82 _ (by omega)]
  · exact ⟨⟨e4, rfl, m28, m30, by omega, by omega, by omega⟩, fun i hi => absurd hi (Nat.not_lt_zero _), fun i hi => absurd hi (Nat.not_lt_zero _), fun i hi => absurd hi (Nat.not_lt_zero _), fun i hi => absurd hi (Nat.not_lt_zero _), fun i j hi => absurd hi (Nat.not_lt_zero _), fun i hi => absurd hi (Nat.not_lt_zero _)⟩
theorem op_land {N : Nat} (hN : 3000 < N) {hS hM : MH} (h : Inv2 hS hM) (a1 : Int32) : OK2 hS hM (f_S_land N a1 hS) (f_M_land N a1 hM) := by
  obtain ⟨t, p1, p2, p3, p4⟩ := h.2.2.2.1
  obtain ⟨G, n0, m0, hE⟩ := h.2.1
  have eG : gR hS 1 11 = G := hE.2.1
  obtain ⟨D, hD, e9, GD⟩ : ∃ D, (D = 5 ∨ D = 54) ∧ gR hS 3 9 = D ∧ ((G = 5 ∧ D = 54) ∨ (G = 54 ∧ D = 5)) := by
    rcases hE.1 with ⟨u, v⟩ | ⟨u, v⟩
    · exact ⟨54, .inr rfl, v, .inl ⟨u, rfl⟩⟩
    · exact ⟨5, .inl rfl, v, .inr ⟨u, rfl⟩⟩
  unfold f_S_land f_M_land F_M_land_0 f_S_refuse f_M_refuse f_S_answer
  rw [p2, p3]
  by_cases g1 : a1 < 0
  · rw [if_pos g1, if_pos g1]
    exact OK2_st h Fr.rfl Fr.rfl _ _
  rw [if_neg g1, if_neg g1]
  by_cases g2 : a1 ≤ nI t
  case neg =>
    rw [if_neg g2, if_neg g2]
    exact OK2_st h Fr.rfl Fr.rfl _ _
  rw [if_pos g2, if_pos g2]
  obtain ⟨n, n1, rfl⟩ := nI_ex (show 0 ≤ a1 by grind)
  rw [nN_le n1 (by omega)] at g2
  have n6 : n ≤ 600 := by omega
  -- both before the first token
  obtain ⟨x, a1, a2, a3, a4, a5, a6, a7, a8, a9, a10, a11, a12, a13, a14⟩ := clsInit (N := N) (by omega) (n := n) hD e9
  obtain ⟨f1, y, b1, b2, b3, b4, b5, b6, b7, b8, b9, b10, b11, b12, b13, b14, b15⟩ := refInit (N := N) hN n6 (hM := hM) (fun k hk => (p4 k (by omega)).2)
  have w4 : ∀ k, wGS D 4 k = false := fun k => by unfold wGS; simp; omega
  have cx : CX n (fun k => iN (gI hM 72 k &&& 255)) x := ⟨n6, a4, fun k hk => by
    obtain ⟨u1, u2⟩ := p4 k (by omega)
    obtain ⟨v1, v2, v3, v4⟩ := byte_ok u2
    exact ⟨v2, by rw [a2.i 4 k (w4 k), u1]; exact v1.symm⟩⟩
  have mx : MX n (fun k => iN (gI hM 72 k &&& 255)) y := ⟨n6, b5, fun k hk => by
    obtain ⟨u1, u2⟩ := p4 k (by omega)
    obtain ⟨v1, v2, v3, v4⟩ := byte_ok u2
    exact ⟨v2, by rw [b13 k hk]; exact v3.symm⟩⟩
  generalize hB : (fun k => iN (gI hM 72 k &&& 255)) = B at cx mx
  have pr0 : PR n B x y D 0 0 := PR_0 hD (by rw [a2.r 3 9 (by unfold wGS; simp; omega)]; exact e9) a8 a9 a10 a11 a12 a13 a14 b9 b10 b11 b14 b15
  obtain ⟨x1, c1, c2, c3, c4⟩ := eAdv (N := N) (by omega) cx a5 (Nat.zero_le _)
  obtain ⟨y1, d1, d2, d3⟩ := eNext (N := N) (by omega) mx b6 (Nat.zero_le _)
  obtain ⟨tg, -⟩ := tok_good (B := B) (n := n) (Nat.zero_le n) (fun k hk => (cx.2.2 k hk).1)
  have lv : LV n B x1 y1 (tok B n 0) := ⟨CX_fr cx c2 rfl (fun _ => rfl), MX_fr mx d2 rfl (fun _ => rfl), tg, c3, d3, by rw [d2.i 68 16 rfl]; exact b8, by rw [d2.i 68 15 rfl]; exact b7, fun q => by
    obtain ⟨v1, v2⟩ := c4.2 (fun w => q w.1)
    rw [v1, v2]; exact ⟨a6, a7⟩, fun q => c4.1 ⟨q, a6⟩⟩
  have pr1 := PR_fr pr0 c2 (d2.mono (fun _ _ => wN_R))
  have tst := tg.2.1
  obtain ⟨i', hS', hM', f', r0, r1, r2, r3, r4, r5, r6⟩ := lParts (N := N) hN (D := D) (n - (tok B n 0).2.1) 0 (N + 1) (f1 + 1) x1 y1 (tok B n 0) 0 0 (by omega) (by omega) tok_bad (by omega) (by omega) lv pr1 (by rw [d2.i 68 31 rfl]; exact b12)
  have fS : Fr (wGS D) hS hS' := (a2.trans (c2.mono (fun c k w => wTk_D (wDS_G w)))).trans (r4.mono (fun _ _ => wDS_G))
  have fM : Fr wGM hM hM' := (b3.trans (d2.mono (fun c k w => wN_D (wDM_P (wDP_G w))))).trans (r5.mono (fun _ _ => wDP_G))
  have cls : f_Reader_readParts N (nI n) hS = some (nI i', hS') := by
    rw [a1, c1, bnd_some]
    exact r1
  have ref : F_M_land_25 N (L_M_land N N) (nI n) 0 (sI hM 68 9 (nI n)) = F_M_land_154 N (L_M_land N f') 0 hM' := by
    rw [b2, d1, bnd_some, ← r2]
    have k0 : (gI y1 68 10 = 0) = ((tok B n 0).1 = 0) := by
      have := tg.1
      rw [d3.1, show (0 : Int32) = nI 0 from rfl, nN_inj (by omega) (by omega)]
    by_cases z : (tok B n 0).1 = 0
    · rw [if_pos (by rw [k0]; exact z), if_pos z]; rfl
    · rw [if_neg (by rw [k0]; exact z), if_neg z]; rfl
  have e31 : gI hS' 3 1 = nI 0 := by
    rw [r4.i 3 1 (by unfold wDS wTk; simp; omega), c2.i 3 1 rfl]; exact a3
  have m8 : gI hM' 68 8 = nI 0 := by
    rw [r5.i 68 8 rfl, d2.i 68 8 rfl]; exact b4
  have wle : ∀ c k, wLS D c k = false → wGS D c k = false := fun c k w => by unfold wLS at w; unfold wGS; simp at w ⊢; omega
  have wme : ∀ c k, wLM c k = false → wGM c k = false := fun c k w => by unfold wLM at w; unfold wGM; simp at w ⊢; omega
  have wls : ∀ c k, wS c k = false → wLS D c k = false := fun c k w => by unfold wS at w; unfold wLS; simp at w ⊢; omega
  have wlm : ∀ c k, wM c k = false → wLM c k = false := fun c k w => by unfold wM at w; unfold wLM; simp at w ⊢; omega
  have r39 : gR hS' 3 9 = D := by rw [fS.r 3 9 (by unfold wGS; simp; omega)]; exact e9
  have r111 : gR hS' 1 11 = G := by rw [fS.r 1 11 (by unfold wGS; simp; omega)]; exact eG
  rw [cls, bnd_some]
  dsimp only
  rw [ref]
  rcases r6 with ⟨nc, nm, s1, s2, s3, s4, s5, s6⟩ | ⟨-, -, ⟨q, q1, q2, q3, q4⟩, q5⟩
  · -- the land is taken
    obtain ⟨hF, o1, o2, o3, o4, o5, o6, o7, o8, o9, o10, o11, o12⟩ := finM (N := N) (f := f') (by omega) s3
    have z13 : gI (sI (sI hS' 1 13 (gI hS' 3 7)) 1 14 (gI hS' 3 8)) 1 13 = 0 := s1
    have e38 : gI (sI hS' 1 13 (gI hS' 3 7)) 3 8 = gI hS' 3 8 := rfl
    rw [o1, s6, e38, z13, if_pos rfl]
    unfold f_Reader_trade f_Ledger_clear f_Shakes_clear
    dsimp only
    rw [bnd_some]
    dsimp only
    rw [bnd_some, bnd_some, bnd_some]
    have g1 : gR (sI (sI hS' 1 13 (gI hS' 3 7)) 1 14 (gI hS' 3 8)) 1 11 = G := r111
    have g2' : gR (sI (sI hS' 1 13 (gI hS' 3 7)) 1 14 (gI hS' 3 8)) 3 9 = D := r39
    rw [g1, g2']
    have fS2 : Fr (wLS D) hS (sI (sI (sI (sI (sR (sR (sI (sI hS' 1 13 (gI hS' 3 7)) 1 14 (gI hS' 3 8)) 3 9 G) 1 11 D) 16 5 0) 16 9 0) 29 3 0) 1 12 0) := ((((((((fS.mono wle).sI 1 13 _ rfl).sI 1 14 _ rfl).sR 3 9 _ rfl).sR 1 11 _ rfl).sI 16 5 _ (by unfold wLS; simp)).sI 16 9 _ (by unfold wLS; simp)).sI 29 3 _ (by unfold wLS; simp)).sI 1 12 _ rfl
    have fM2 : Fr wLM hM hF := (fM.mono wme).trans (o2.mono (fun c k w => by unfold wLM at w; unfold wEM; simp at w ⊢; omega))
    refine ⟨nI i', _, hF, rfl, rfl, Inv_land h hD fS2 fM2 o3.symm ?_ ?_ e31 ?_ ⟨D, nc, nm, ?_, ?_, ?_, ⟨0, 0, ?_⟩, ⟨0, ?_⟩⟩, fS2.mono wls, fM2.mono wlm⟩
    · rw [o4]; exact s1
    · rw [o2.i 68 15 rfl, s4]; exact s2
    · rw [o2.i 68 8 rfl]; exact m8
    · rcases GD with ⟨u, v⟩ | ⟨u, v⟩
      · exact .inr ⟨v, by show G = 5; exact u⟩
      · exact .inl ⟨v, by show G = 54; exact u⟩
    · rfl
    · exact IvL_of s5 (fun c k h1 h2 => by rcases hD with rfl | rfl <;> (rw [gI_sI, if_neg (by omega), gI_sI, if_neg (by omega), gI_sI, if_neg (by omega), gI_sI, if_neg (by omega)]; show gI (sI (sI hS' 1 13 (gI hS' 3 7)) 1 14 (gI hS' 3 8)) c k = _; rw [gI_sI, if_neg (by omega), gI_sI, if_neg (by omega)])) o5 o6 o10 o11 o12
    · exact ⟨⟨by omega, by omega⟩, ⟨rfl, o7⟩, ⟨rfl, o8⟩, fun k hk => absurd hk (Nat.not_lt_zero _), fun k hk => absurd hk (Nat.not_lt_zero _), s5.1.2.2.1.2⟩
    · exact ⟨by omega, ⟨rfl, o9⟩, fun k hk => absurd hk (Nat.not_lt_zero _)⟩
  · -- a fault
    have z13 : gI (sI (sI hS' 1 13 (gI hS' 3 7)) 1 14 (gI hS' 3 8)) 1 13 = nI q := q3
    have e38 : gI (sI hS' 1 13 (gI hS' 3 7)) 3 8 = gI hS' 3 8 := rfl
    have nz : ¬ nI q = 0 := by rw [show (0 : Int32) = nI 0 from rfl, nN_inj (by omega) (by omega)]; omega
    have e16 : gI (sI hM' 68 14 (gI hM' 68 16)) 68 16 = nI q := q4
    unfold F_M_land_154 f_M_refuse
    rw [e38, z13, if_neg nz, bnd_some, if_pos rfl]
    dsimp only
    rw [e16, if_neg (by rw [show (0 : Int32) = nI 0 from rfl, nN_le (by omega) (by omega)]; omega), bnd_some]
    dsimp only
    have fS3 : Fr (fun c k => wGS D c k || (c == 1 && (12 ≤ k && k ≤ 14))) hS (sI (sI (sI hS' 1 13 (gI hS' 3 7)) 1 14 (gI hS' 3 8)) 1 12 9) := (((fS.mono (fun c k w => by simp at w; exact w.1)).sI 1 13 _ (by simp)).sI 1 14 _ (by simp)).sI 1 12 _ (by simp)
    have fM3 : Fr (fun c k => wGM c k || (c == 68 && (k == 0 || k == 14))) hM (sI (sI hM' 68 14 (gI hM' 68 16)) 68 0 9) := ((fM.mono (fun c k w => by simp at w; exact w.1)).sI 68 14 _ rfl).sI 68 0 _ rfl
    have fS2 : Fr (wLS D) hS (sI (sI (sI hS' 1 13 (gI hS' 3 7)) 1 14 (gI hS' 3 8)) 1 12 9) := (((fS.mono wle).sI 1 13 _ rfl).sI 1 14 _ rfl).sI 1 12 _ rfl
    have fM2 : Fr wLM hM (sI (sI hM' 68 14 (gI hM' 68 16)) 68 0 9) := ((fM.mono wme).sI 68 14 _ rfl).sI 68 0 _ rfl
    refine ⟨-1, _, _, rfl, rfl, Inv_land h hD fS2 fM2 rfl ?_ ?_ e31 m8 ⟨G, n0, m0, IvE_fr hE fS3 fM3 (fun c k w => ?_) (fun c k w => ?_)⟩, fS2.mono wls, fM2.mono wlm⟩
    · show gI hS' 3 7 = gI hM' 68 16
      rw [q3, q4]
    · exact q5
    · unfold kES kLS kRS kKS at w; unfold wGS; simp at w ⊢; omega
    · unfold kEM kLM kRM kKM at w; unfold wGM; simp at w ⊢; omega
