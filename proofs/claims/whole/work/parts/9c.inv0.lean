/-! MAKERS: the invariant at the start -/
set_option maxRecDepth 1000000 in
theorem z55 : ∀ k, gI (HD X0) 55 k = 0 := fun _ => rfl
set_option maxRecDepth 1000000 in
theorem z56 : ∀ k, gI (HD X0) 56 k = 0 := fun _ => rfl
set_option maxRecDepth 1000000 in
theorem z88 : ∀ k, gI (HD X0) 88 k = 0 := fun _ => rfl
set_option maxRecDepth 1000000 in
theorem z89 : ∀ k, gI (HD X0) 89 k = 0 := fun _ => rfl
set_option maxRecDepth 1000000 in
theorem z41 : ∀ k, gI (HD X0) 41 k = 0 := fun _ => rfl
set_option maxRecDepth 1000000 in
theorem iA0 : IvA (HD X0) (HD X0) := ⟨rfl, rfl, rfl, rfl, rfl, ⟨rfl, 9, by omega, rfl⟩, ⟨rfl, .inl rfl, fun q => absurd q (by decide)⟩, rfl, rfl⟩
set_option maxRecDepth 1000000 in
theorem iE0 : IvE (HD X0) (HD X0) 54 0 0 := by
  refine ⟨.inr ⟨rfl, rfl⟩, rfl, ⟨⟨by omega, by omega⟩, ⟨rfl, rfl⟩, ⟨rfl, rfl⟩, fun k _ => ?_, fun c k _ _ _ => z88 _, fun a _ => ⟨0, by omega, z56 a, fun b _ => ?_⟩, fun a b _ _ => ?_, fun a _ => z89 _, fun a b _ _ _ => z89 _, fun c hc => absurd hc (Nat.not_lt_zero _)⟩, ⟨0, 0, ⟨by omega, by omega⟩, ⟨rfl, rfl⟩, ⟨rfl, rfl⟩, fun k hk => absurd hk (Nat.not_lt_zero _), fun k hk => absurd hk (Nat.not_lt_zero _), by omega⟩, ⟨0, by omega, ⟨rfl, rfl⟩, fun k hk => absurd hk (Nat.not_lt_zero _)⟩⟩
  · rw [z88]
    exact ⟨z55 k, by decide, by decide⟩
  · rw [z89, Nat.zero_testBit]; rfl
  · rw [z89, z89]
set_option maxRecDepth 1000000 in
theorem iT0 : IvT (HD X0) (HD X0) 0 := ⟨rfl, ⟨0, by omega, rfl, rfl⟩, rfl, .inl rfl⟩
set_option maxRecDepth 1000000 in
theorem iT1 : IvT (HD X0) (HD X0) 1 := ⟨rfl, ⟨0, by omega, rfl, rfl⟩, rfl, .inl rfl⟩
set_option maxRecDepth 1000000 in
theorem iT2 : IvT (HD X0) (HD X0) 2 := ⟨rfl, ⟨0, by omega, rfl, rfl⟩, rfl, .inl rfl⟩
set_option maxRecDepth 1000000 in
theorem iT3 : IvT (HD X0) (HD X0) 3 := ⟨rfl, ⟨0, by omega, rfl, rfl⟩, rfl, .inl rfl⟩
set_option maxRecDepth 1000000 in
theorem iP0 : IvP (HD X0) (HD X0) 0 := ⟨by omega, rfl, rfl, fun k hk => absurd hk (Nat.not_lt_zero _)⟩
set_option maxRecDepth 1000000 in
theorem iF0 : IvF (HD X0) (HD X0) 0 := ⟨by omega, rfl, rfl, fun k hk => absurd hk (Nat.not_lt_zero _)⟩
set_option maxRecDepth 1000000 in
theorem Inv0 {x : MH} (f : Fr w46 X0 x) (t : IvWt x) : Inv2 (HD x) (HD x) := by
  have fr := HD_fr f
  have x1 : x.1 = 47 := f.1
  refine ⟨IvA_fr iA0 fr fr (fun c k q => by unfold kAS at q; unfold w46; simp at q ⊢; omega) (fun c k q => by unfold kAM at q; unfold w46; simp at q ⊢; omega), ⟨54, 0, 0, IvE_fr iE0 fr fr (fun c k q => by unfold kES kLS kRS kKS at q; unfold w46; simp at q ⊢; omega) (fun c k q => by unfold kEM kLM kRM kKM at q; unfold w46; simp at q ⊢; omega)⟩, ⟨IvT_fr iT0 fr fr (fun c k q => by unfold kTS at q; unfold w46; simp at q ⊢; omega) (fun c k q => by unfold kTM at q; unfold w46; simp at q ⊢; omega), IvT_fr iT1 fr fr (fun c k q => by unfold kTS at q; unfold w46; simp at q ⊢; omega) (fun c k q => by unfold kTM at q; unfold w46; simp at q ⊢; omega), IvT_fr iT2 fr fr (fun c k q => by unfold kTS at q; unfold w46; simp at q ⊢; omega) (fun c k q => by unfold kTM at q; unfold w46; simp at q ⊢; omega), IvT_fr iT3 fr fr (fun c k q => by unfold kTS at q; unfold w46; simp at q ⊢; omega) (fun c k q => by unfold kTM at q; unfold w46; simp at q ⊢; omega)⟩, ⟨0, IvP_fr iP0 fr fr (fun c k q => by unfold kPS at q; unfold w46; simp at q ⊢; omega) (fun c k q => by unfold kPM at q; unfold w46; simp at q ⊢; omega)⟩, ⟨0, IvF_fr iF0 fr fr (fun c k q => by unfold kFS at q; unfold w46; simp at q ⊢; omega) (fun c k q => by unfold kFM at q; unfold w46; simp at q ⊢; omega)⟩, ⟨fun j u hj hu => ?_, fun k _ => ?_⟩⟩
  · obtain ⟨xc, xi, xj, xr⟩ := x
    simp only at x1
    subst x1
    exact t j u hj hu
  · rw [fr.i 41 k rfl]; exact z41 k
def finB (h : MH) : Bool := FINL.all (fun q => (List.range 116).all (fun c => match KDL[c]? with
  | some (0, ci) => !(Nat.beq ci q.1) || Nat.beq (gR h c q.2.1) (c + q.2.2.2.2)
  | _ => true))
set_option maxRecDepth 1000000 in
theorem fin0 : finB (HD X0) = true := by decide +kernel
theorem KDl : KDL.length = 116 := by decide +kernel
theorem KD46 : KDL[46]? = some (1, 385) := by decide +kernel
theorem KD5 : ∀ c : Fin 116, ∀ n, KDL[c.val]? = some (5, n) → c.val = 2 ∧ n = 4 := by
  have : ∀ c : Fin 116, (KDL.getD c (0, 0)).1 = 5 → c.val = 2 ∧ (KDL.getD c (0, 0)).2 = 4 := by decide +kernel
  intro c n h
  have e : KDL.getD c (0, 0) = (5, n) := by rw [List.getD_eq_getElem?_getD, h]; rfl
  have := this c (by rw [e])
  rw [e] at this
  exact this
set_option maxRecDepth 1000000 in
theorem Fin0 {x : MH} (f : Fr w46 X0 x) : FinOK (HD x) := by
  have fr := HD_fr f
  have ne46 : ∀ c ci, KDL[c]? = some (0, ci) → w46 c 0 = false := fun c ci h => by
    unfold w46
    refine Bool.eq_false_iff.mpr (fun w => ?_)
    have : c = 46 := by simpa using w
    rw [this, KD46] at h
    cases h
  have lt : ∀ c q, KDL[c]? = some q → c < 116 := fun c q h => by
    have := (List.getElem?_eq_some_iff.mp h).1
    rw [KDl] at this; exact this
  refine ⟨rfl, fun q hq c hc => ?_, fun q hq c hc => ?_, fun c n hc j hj => ?_⟩
  · rw [fr.r c q.2.1 (ne46 c q.1 hc)]
    have h1 := List.all_eq_true.mp fin0 q hq
    have h2 := List.all_eq_true.mp h1 c (List.mem_range.mpr (lt c _ hc))
    rw [hc] at h2
    simp only [Bool.or_eq_true, Bool.not_eq_true'] at h2
    rcases h2 with h2 | h2
    · rw [Nat.beq_refl] at h2; cases h2
    · exact Nat.eq_of_beq_eq_true h2
  · rw [fr.r c q.2.1 (ne46 c q.1 hc)]
    have hd : ∀ q ∈ DYNL, ∀ c : Fin 116, KDL[c.val]? = some (0, q.1) → kOK KDL 115 q.2.2.1 q.2.2.2 (gR (HD X0) c q.2.1) = true := by decide +kernel
    exact hd q hq ⟨c, lt c _ hc⟩ hc
  · obtain ⟨e1, e2⟩ := KD5 ⟨c, lt c _ hc⟩ n hc
    simp only at e1
    subst e1 e2
    rw [fr.r 2 j rfl]
    have hd : ∀ j : Fin 4, kOK KDL 115 0 9 (gR (HD X0) 2 j) = true := by decide +kernel
    exact hd ⟨j, hj⟩
