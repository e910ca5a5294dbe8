/-! THE LAW: its loop -/
theorem Inv_two {hS hM hS' hM' : MH} (h : Inv2 hS hM) {WS WM : Nat → Nat → Bool} (fS : Fr WS hS hS') (fM : Fr WM hM hM') (kS : ∀ c k, c < 68 → WS c k = false) (kM : ∀ c k, 68 ≤ c → WM c k = false) : Inv2 hS' hM' := by
  obtain ⟨hA, ⟨G, n, m, hE⟩, ⟨t0, t1, t2, t3⟩, ⟨t, hP⟩, ⟨f, hF⟩, hW⟩ := h
  have hG : G = 5 ∨ G = 54 := by rcases hE.1 with q | q; exact .inl q.1; exact .inr q.1
  have tr : ∀ u, u < 4 → IvT hS hM u → IvT hS' hM' u := fun u hu hh => IvT_fr hh fS fM (fun c k q => kS c k (by unfold kTS at q; simp at q; omega)) (fun c k q => kM c k (by unfold kTM at q; simp at q; omega))
  exact ⟨IvA_fr hA fS fM (fun c k q => kS c k (by unfold kAS at q; simp at q; omega)) (fun c k q => kM c k (by unfold kAM at q; simp at q; omega)), ⟨G, n, m, IvE_fr hE fS fM (fun c k q => kS c k (by unfold kES kLS kRS kKS at q; simp at q; omega)) (fun c k q => kM c k (by unfold kEM kLM kRM kKM at q; simp at q; omega))⟩, ⟨tr 0 (by omega) t0, tr 1 (by omega) t1, tr 2 (by omega) t2, tr 3 (by omega) t3⟩, ⟨t, IvP_fr hP fS fM (fun c k q => kS c k (by unfold kPS at q; simp at q; omega)) (fun c k q => kM c k (by unfold kPM at q; simp at q; omega))⟩, ⟨f, IvF_fr hF fS fM (fun c k q => kS c k (by unfold kFS at q; simp at q; omega)) (fun c k q => kM c k (by unfold kFM at q; simp at q; omega))⟩, IvW_fr hW fS (fun k => kS _ _ (by omega)) (fun k _ => kS _ _ (by omega))⟩
theorem wS_M {c k : Nat} (h : 68 ≤ c) : wS c k = false := by unfold wS; simp; omega
theorem wM_S {c k : Nat} (h : c < 68) : wM c k = false := by unfold wM; simp; omega
/-- a call of the class, then the same of the reference, on one heap -/
theorem lawStep {T : Type} {fS fM : MH → Option (T × MH)} (op : ∀ {hS hM : MH}, Inv2 hS hM → OK2 hS hM (fS hS) (fM hM)) {h : MH} (hi : Inv2 h h) : ∃ a h1 h2, fS h = some (a, h1) ∧ fM h1 = some (a, h2) ∧ Inv2 h2 h2 := by
  obtain ⟨a, h1, -, e1, -, -, f1, -⟩ := op hi
  have i1 : Inv2 h h1 := Inv_two hi (Fr.rfl (W := fun _ _ => false)) f1 (fun _ _ _ => rfl) (fun _ _ q => wS_M q)
  obtain ⟨b, h1', h2, e1', e2, i2, -, f2⟩ := op i1
  rw [e1] at e1'
  have e := Option.some.inj e1'
  have ea : a = b := (Prod.mk.inj e).1
  have eh : h1 = h1' := (Prod.mk.inj e).2
  subst ea eh
  exact ⟨a, h1, h2, e1, e2, Inv_two i2 f2 (Fr.rfl (W := fun _ _ => false)) (fun _ _ q => wM_S q) (fun _ _ _ => rfl)⟩
theorem lawI {K : MH → Option (Int32 × MH)} {fS fM : MH → Option (Int32 × MH)} (op : ∀ {hS hM : MH}, Inv2 hS hM → OK2 hS hM (fS hS) (fM hM)) {h : MH} (hi : Inv2 h h) (next : ∀ h2, Inv2 h2 h2 → ∃ h', K h2 = some (1, h')) : ∃ h', (fS h).bind (fun x1 => (fM x1.2).bind (fun x2 => if x1.1 = x2.1 then K x2.2 else some (0, x2.2))) = some (1, h') := by
  obtain ⟨a, h1, h2, s1, s2, s3⟩ := lawStep op hi
  rw [s1, bnd_some]
  dsimp only
  rw [s2, bnd_some]
  dsimp only
  rw [if_pos rfl]
  exact next h2 s3
theorem lawJ {K : MH → Option (Int32 × MH)} {fS fM : MH → Option (Int64 × MH)} (op : ∀ {hS hM : MH}, Inv2 hS hM → OK2 hS hM (fS hS) (fM hM)) {h : MH} (hi : Inv2 h h) (next : ∀ h2, Inv2 h2 h2 → ∃ h', K h2 = some (1, h')) : ∃ h', (fS h).bind (fun x1 => (fM x1.2).bind (fun x2 => if lg_cmp x1.1 x2.1 = 0 then K x2.2 else some (0, x2.2))) = some (1, h') := by
  obtain ⟨a, h1, h2, s1, s2, s3⟩ := lawStep op hi
  rw [s1, bnd_some]
  dsimp only
  rw [s2, bnd_some]
  dsimp only
  rw [if_pos (by rw [cmp0])]
  exact next h2 s3
set_option maxHeartbeats 4000000 in
set_option maxRecDepth 1000000 in
theorem lawRun {N : Nat} (hN : 20000000 < N) {xs : Nat → Int32} {q0 : Nat} (hq : q0 ≤ 3072) : ∀ (e a f : Nat) (h : MH), q0 ≤ a + 6 * e + 5 → a ≤ 4000 → e < f → Inv2 h h → ∃ h', L_Law_law N xs f q0 (nI a) h = some (1, h') := by
  have t6 : (nI q0 - 6).toInt = (q0 : Int) - 6 := by
    rw [Int32.toInt_sub, nN_toInt (by omega), show (6 : Int32).toInt = 6 from rfl]
    rw [Int.bmod_eq_of_le] <;> omega
  intro e
  induction e with
  | zero =>
    intro a f h h1 h2 h3 hi
    obtain ⟨f, rfl⟩ : ∃ z, f = z + 1 := ⟨f - 1, by omega⟩
    refine ⟨h, ?_⟩
    show F_Law_law_18 N xs (L_Law_law N xs f) q0 (nI a) h = _
    unfold F_Law_law_18
    rw [if_pos (by rw [Int32.lt_iff_toInt_lt, t6, nN_toInt (by omega)]; omega)]
  | succ e ih =>
    intro a f h h1 h2 h3 hi
    obtain ⟨f, rfl⟩ : ∃ z, f = z + 1 := ⟨f - 1, by omega⟩
    show ∃ h', F_Law_law_18 N xs (L_Law_law N xs f) q0 (nI a) h = _
    unfold F_Law_law_18
    by_cases z : q0 < a + 6
    · refine ⟨h, ?_⟩
      rw [if_pos (by rw [Int32.lt_iff_toInt_lt, t6, nN_toInt (by omega)]; omega)]
    rw [if_neg (by rw [Int32.lt_iff_toInt_lt, t6, nN_toInt (by omega)]; omega)]
    have ib0 : inB (nI a) q0 = true := by rw [inB_nI (by omega)]; omega
    have ib : ∀ j, j ≤ 5 → inB (nI a + nI j) q0 = true := fun j hj => by rw [nN_add, inB_nI (by omega)]; omega
    have ib1 : inB (nI a + 1) q0 = true := ib 1 (by omega)
    have ib2 : inB (nI a + 2) q0 = true := ib 2 (by omega)
    have ib3 : inB (nI a + 3) q0 = true := ib 3 (by omega)
    have ib4 : inB (nI a + 4) q0 = true := ib 4 (by omega)
    have ib5 : inB (nI a + 5) q0 = true := ib 5 (by omega)
    have next : ∀ h2, Inv2 h2 h2 → ∃ h', L_Law_law N xs f q0 (nI a + 6) h2 = some (1, h') := fun h2 i2 => by
      rw [show nI a + 6 = nI (a + 6) from nN_add a 6]
      exact ih (a + 6) f h2 (by omega) (by omega) (by omega) i2
    rw [if_pos ib0]
    by_cases c0 : xs (iN (nI a)) &&& 63 = nI 0
    · rw [if_pos c0]
      exact lawI (fun hi => op_status hi) hi next
    rw [if_neg c0]
    by_cases c1 : xs (iN (nI a)) &&& 63 = nI 1
    · rw [if_pos c1]
      exact lawJ (fun hi => op_top hi) hi next
    rw [if_neg c1]
    by_cases c2 : xs (iN (nI a)) &&& 63 = nI 2
    · rw [if_pos c2]
      exact lawJ (fun hi => op_bottom hi) hi next
    rw [if_neg c2]
    by_cases c3 : xs (iN (nI a)) &&& 63 = nI 3
    · rw [if_pos c3]
      simp only [ib1, ib2, ib3, if_true]
      exact lawI (fun hi => op_tray (by omega) hi _ _ _) hi next
    rw [if_neg c3]
    by_cases c4 : xs (iN (nI a)) &&& 63 = nI 4
    · rw [if_pos c4]
      simp only [ib1, ib2, ib3, ib4, if_true]
      exact lawI (fun hi => op_write hi _ _ _) hi next
    rw [if_neg c4]
    by_cases c5 : xs (iN (nI a)) &&& 63 = nI 5
    · rw [if_pos c5]
      simp only [ib1, ib2, if_true]
      exact lawJ (fun hi => op_read hi _ _) hi next
    rw [if_neg c5]
    by_cases c6 : xs (iN (nI a)) &&& 63 = nI 6
    · rw [if_pos c6]
      simp only [ib1, ib2, ib3, ib4, ib5, if_true]
      exact lawI (fun hi => op_pour (by omega) hi _ _ _ _ _) hi next
    rw [if_neg c6]
    by_cases c7 : xs (iN (nI a)) &&& 63 = nI 7
    · rw [if_pos c7]
      simp only [ib1, ib2, ib3, ib4, ib5, if_true]
      exact lawI (fun hi => op_feed (by omega) hi _ _ _ _ _) hi next
    rw [if_neg c7]
    by_cases c8 : xs (iN (nI a)) &&& 63 = nI 8
    · rw [if_pos c8]
      simp only [ib1, if_true]
      exact lawI (fun hi => op_land (by omega) hi _) hi next
    rw [if_neg c8]
    by_cases c9 : xs (iN (nI a)) &&& 63 = nI 9
    · rw [if_pos c9]
      simp only [ib1, if_true]
      exact lawI (fun hi => op_fault hi _) hi next
    rw [if_neg c9]
    by_cases c10 : xs (iN (nI a)) &&& 63 = nI 10
    · rw [if_pos c10]
      simp only [ib1, if_true]
      exact lawI (fun hi => op_many hi _) hi next
    rw [if_neg c10]
    by_cases c11 : xs (iN (nI a)) &&& 63 = nI 11
    · rw [if_pos c11]
      simp only [ib1, ib2, if_true]
      exact lawI (fun hi => op_moves hi _ _) hi next
    rw [if_neg c11]
    by_cases c12 : xs (iN (nI a)) &&& 63 = nI 12
    · rw [if_pos c12]
      simp only [ib1, ib2, ib3, ib4, ib5, if_true]
      exact lawI (fun hi => op_row hi _ _ _ _ _) hi next
    rw [if_neg c12]
    by_cases c13 : xs (iN (nI a)) &&& 63 = nI 13
    · rw [if_pos c13]
      simp only [ib1, ib2, ib3, if_true]
      exact lawI (fun hi => op_offset hi _ _ _) hi next
    rw [if_neg c13]
    by_cases c14 : xs (iN (nI a)) &&& 63 = nI 14
    · rw [if_pos c14]
      simp only [ib1, if_true]
      exact lawI (fun hi => op_asof hi _) hi next
    rw [if_neg c14]
    by_cases c15 : xs (iN (nI a)) &&& 63 = nI 15
    · rw [if_pos c15]
      simp only [ib1, ib2, ib3, if_true]
      exact lawI (fun hi => op_value (by omega) hi _ _ _) hi next
    rw [if_neg c15]
    by_cases c16 : xs (iN (nI a)) &&& 63 = nI 16
    · rw [if_pos c16]
      simp only [ib1, ib2, ib3, ib4, if_true]
      exact lawI (fun hi => op_line (by omega) hi _ _ _ _) hi next
    rw [if_neg c16]
    by_cases c17 : xs (iN (nI a)) &&& 63 = nI 17
    · rw [if_pos c17]
      simp only [ib1, if_true]
      exact lawI (fun hi => op_breaks (by omega) hi _) hi next
    rw [if_neg c17]
    by_cases c18 : xs (iN (nI a)) &&& 63 = nI 18
    · rw [if_pos c18]
      simp only [ib1, ib2, ib3, ib4, if_true]
      exact lawI (fun hi => op_slow (by omega) hi _ _ _ _) hi next
    rw [if_neg c18]
    by_cases c19 : xs (iN (nI a)) &&& 63 = nI 19
    · rw [if_pos c19]
      simp only [ib1, if_true]
      exact lawI (fun hi => op_smooth hi _) hi next
    rw [if_neg c19]
    by_cases c20 : xs (iN (nI a)) &&& 63 = nI 20
    · rw [if_pos c20]
      simp only [ib1, ib2, if_true]
      exact lawI (fun hi => op_slips (by omega) hi _ _) hi next
    rw [if_neg c20]
    by_cases c21 : xs (iN (nI a)) &&& 63 = nI 21
    · rw [if_pos c21]
      simp only [ib1, ib2, ib3, ib4, if_true]
      exact lawI (fun hi => op_ends (by omega) hi _ _ _ _) hi next
    rw [if_neg c21]
    by_cases c22 : xs (iN (nI a)) &&& 63 = nI 22
    · rw [if_pos c22]
      simp only [ib1, ib2, ib3, if_true]
      exact lawI (fun hi => op_first (by omega) hi _ _ _) hi next
    rw [if_neg c22]
    by_cases c23 : xs (iN (nI a)) &&& 63 = nI 23
    · rw [if_pos c23]
      simp only [ib1, ib2, if_true]
      exact lawI (fun hi => op_corner (by omega) hi _ _) hi next
    rw [if_neg c23]
    by_cases c24 : xs (iN (nI a)) &&& 63 = nI 24
    · rw [if_pos c24]
      simp only [ib1, ib2, ib3, if_true]
      exact lawI (fun hi => op_quarrel (by omega) hi _ _ _) hi next
    rw [if_neg c24]
    by_cases c25 : xs (iN (nI a)) &&& 63 = nI 25
    · rw [if_pos c25]
      simp only [ib1, ib2, ib3, if_true]
      exact lawI (fun hi => op_without (by omega) hi _ _ _) hi next
    rw [if_neg c25]
    by_cases c26 : xs (iN (nI a)) &&& 63 = nI 26
    · rw [if_pos c26]
      simp only [ib1, ib2, if_true]
      exact lawI (fun hi => op_rank (by omega) hi _ _) hi next
    rw [if_neg c26]
    by_cases c27 : xs (iN (nI a)) &&& 63 = nI 27
    · rw [if_pos c27]
      simp only [ib1, ib2, if_true]
      exact lawI (fun hi => op_apart (by omega) hi _ _) hi next
    rw [if_neg c27]
    by_cases c28 : xs (iN (nI a)) &&& 63 = nI 28
    · rw [if_pos c28]
      simp only [ib1, ib2, ib3, ib4, if_true]
      exact lawI (fun hi => op_odds (by omega) hi _ _ _ _) hi next
    rw [if_neg c28]
    by_cases c29 : xs (iN (nI a)) &&& 63 = nI 29
    · rw [if_pos c29]
      simp only [ib1, ib2, ib3, if_true]
      exact lawI (fun hi => op_shake hi _ _ _) hi next
    rw [if_neg c29]
    by_cases c30 : xs (iN (nI a)) &&& 63 = nI 30
    · rw [if_pos c30]
      simp only [ib1, ib2, ib3, if_true]
      exact lawI (fun hi => op_saved (by omega) hi _ _ _) hi next
    rw [if_neg c30]
    by_cases c31 : xs (iN (nI a)) &&& 63 = nI 31
    · rw [if_pos c31]
      simp only [ib1, ib2, if_true]
      exact lawI (fun hi => op_net (by omega) hi _ _) hi next
    rw [if_neg c31]
    by_cases c32 : xs (iN (nI a)) &&& 63 = nI 32
    · rw [if_pos c32]
      simp only [ib1, if_true]
      exact lawI (fun hi => op_netTold hi _) hi next
    rw [if_neg c32]
    by_cases c33 : xs (iN (nI a)) &&& 63 = nI 33
    · rw [if_pos c33]
      simp only [ib1, ib2, ib3, ib4, if_true]
      exact lawI (fun hi => op_few (by omega) hi _ _ _ _) hi next
    rw [if_neg c33]
    by_cases c34 : xs (iN (nI a)) &&& 63 = nI 34
    · rw [if_pos c34]
      simp only [ib1, if_true]
      exact lawI (fun hi => op_fewOf hi _) hi next
    rw [if_neg c34]
    exact next h hi
