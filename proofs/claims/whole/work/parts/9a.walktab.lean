/-! MAKERS: the walk's table -/
def exT : List (List Nat) := [[1, 0, 0, 0, 0, 0, 0, 0, 0, 0, 0, 0, 0, 0, 0, 0, 0, 0, 0, 0, 0, 0, 0, 0, 0, 0, 0, 0, 0, 0, 0, 0, 0, 0, 0, 0, 0, 0, 0, 0, 0, 0, 0, 0, 0, 0, 0, 0, 0, 0, 0, 0, 0, 0, 0], [1, 1, 1, 1, 1, 1, 1, 1, 1, 1, 0, 0, 0, 0, 0, 0, 0, 0, 0, 0, 0, 0, 0, 0, 0, 0, 0, 0, 0, 0, 0, 0, 0, 0, 0, 0, 0, 0, 0, 0, 0, 0, 0, 0, 0, 0, 0, 0, 0, 0, 0, 0, 0, 0, 0], [1, 2, 3, 4, 5, 6, 7, 8, 9, 10, 9, 8, 7, 6, 5, 4, 3, 2, 1, 0, 0, 0, 0, 0, 0, 0, 0, 0, 0, 0, 0, 0, 0, 0, 0, 0, 0, 0, 0, 0, 0, 0, 0, 0, 0, 0, 0, 0, 0, 0, 0, 0, 0, 0, 0], [1, 3, 6, 10, 15, 21, 28, 36, 45, 55, 63, 69, 73, 75, 75, 73, 69, 63, 55, 45, 36, 28, 21, 15, 10, 6, 3, 1, 0, 0, 0, 0, 0, 0, 0, 0, 0, 0, 0, 0, 0, 0, 0, 0, 0, 0, 0, 0, 0, 0, 0, 0, 0, 0, 0], [1, 4, 10, 20, 35, 56, 84, 120, 165, 220, 282, 348, 415, 480, 540, 592, 633, 660, 670, 660, 633, 592, 540, 480, 415, 348, 282, 220, 165, 120, 84, 56, 35, 20, 10, 4, 1, 0, 0, 0, 0, 0, 0, 0, 0, 0, 0, 0, 0, 0, 0, 0, 0, 0, 0], [1, 5, 15, 35, 70, 126, 210, 330, 495, 715, 996, 1340, 1745, 2205, 2710, 3246, 3795, 4335, 4840, 5280, 5631, 5875, 6000, 6000, 5875, 5631, 5280, 4840, 4335, 3795, 3246, 2710, 2205, 1745, 1340, 996, 715, 495, 330, 210, 126, 70, 35, 15, 5, 1, 0, 0, 0, 0, 0, 0, 0, 0, 0], [1, 6, 21, 56, 126, 252, 462, 792, 1287, 2002, 2997, 4332, 6062, 8232, 10872, 13992, 17577, 21582, 25927, 30492, 35127, 39662, 43917, 47712, 50877, 53262, 54747, 55252, 54747, 53262, 50877, 47712, 43917, 39662, 35127, 30492, 25927, 21582, 17577, 13992, 10872, 8232, 6062, 4332, 2997, 2002, 1287, 792, 462, 252, 126, 56, 21, 6, 1]]
def sfT : List (List Nat) := [[1, 0, 0, 0, 0, 0, 0, 0, 0, 0, 0, 0, 0, 0, 0, 0, 0, 0, 0, 0, 0, 0, 0, 0, 0, 0, 0, 0, 0, 0, 0, 0, 0, 0, 0, 0, 0, 0, 0, 0, 0, 0, 0, 0, 0, 0, 0, 0, 0, 0, 0, 0, 0, 0, 0], [10, 9, 8, 7, 6, 5, 4, 3, 2, 1, 0, 0, 0, 0, 0, 0, 0, 0, 0, 0, 0, 0, 0, 0, 0, 0, 0, 0, 0, 0, 0, 0, 0, 0, 0, 0, 0, 0, 0, 0, 0, 0, 0, 0, 0, 0, 0, 0, 0, 0, 0, 0, 0, 0, 0], [100, 99, 97, 94, 90, 85, 79, 72, 64, 55, 45, 36, 28, 21, 15, 10, 6, 3, 1, 0, 0, 0, 0, 0, 0, 0, 0, 0, 0, 0, 0, 0, 0, 0, 0, 0, 0, 0, 0, 0, 0, 0, 0, 0, 0, 0, 0, 0, 0, 0, 0, 0, 0, 0, 0], [1000, 999, 996, 990, 980, 965, 944, 916, 880, 835, 780, 717, 648, 575, 500, 425, 352, 283, 220, 165, 120, 84, 56, 35, 20, 10, 4, 1, 0, 0, 0, 0, 0, 0, 0, 0, 0, 0, 0, 0, 0, 0, 0, 0, 0, 0, 0, 0, 0, 0, 0, 0, 0, 0, 0], [10000, 9999, 9995, 9985, 9965, 9930, 9874, 9790, 9670, 9505, 9285, 9003, 8655, 8240, 7760, 7220, 6628, 5995, 5335, 4665, 4005, 3372, 2780, 2240, 1760, 1345, 997, 715, 495, 330, 210, 126, 70, 35, 15, 5, 1, 0, 0, 0, 0, 0, 0, 0, 0, 0, 0, 0, 0, 0, 0, 0, 0, 0, 0], [100000, 99999, 99994, 99979, 99944, 99874, 99748, 99538, 99208, 98713, 97998, 97002, 95662, 93917, 91712, 89002, 85756, 81961, 77626, 72786, 67506, 61875, 56000, 50000, 44000, 38125, 32494, 27214, 22374, 18039, 14244, 10998, 8288, 6083, 4338, 2998, 2002, 1287, 792, 462, 252, 126, 56, 21, 6, 1, 0, 0, 0, 0, 0, 0, 0, 0, 0], [1000000, 999999, 999993, 999972, 999916, 999790, 999538, 999076, 998284, 996997, 994995, 991998, 987666, 981604, 973372, 962500, 948508, 930931, 909349, 883422, 852930, 817803, 778141, 734224, 686512, 635635, 582373, 527626, 472374, 417627, 364365, 313488, 265776, 221859, 182197, 147070, 116578, 90651, 69069, 51492, 37500, 26628, 18396, 12334, 8002, 5005, 3003, 1716, 924, 462, 210, 84, 28, 7, 1]]
def exN (j t : Nat) : Nat := (exT.getD j []).getD t 0
def sfN (j t : Nat) : Nat := (sfT.getD j []).getD t 0
def pex (j t : Nat) : Nat → Nat
  | 0 => 0
  | d + 1 => pex j t d + exN j (t - d)
theorem ex_0 : ∀ t : Fin 55, exN 0 t = if t.val = 0 then 1 else 0 := by decide +kernel
theorem ex_s : ∀ j : Fin 6, ∀ t : Fin 55, pex j t (min 10 (t.val + 1)) = exN (j + 1) t := by decide +kernel
theorem sf_s : ∀ j : Fin 7, ∀ t : Fin 54, sfN j t = exN j t + sfN j (t + 1) := by decide +kernel
theorem sf_e : ∀ j : Fin 7, sfN j 54 = exN j 54 := by decide +kernel
theorem sf_0 : ∀ t : Fin 55, sfN 0 t = if t.val = 0 then 1 else 0 := by decide +kernel
theorem sf_r : ∀ j : Fin 6, ∀ t : Fin 55, sfN (j + 1) t = ((List.range 10).map (fun d => sfN j (t - d))).sum := by decide +kernel
theorem rch_sf : ∀ j t, j ≤ 6 → t ≤ 54 → rch j t = sfN j t
  | 0, t, _, ht => by
    have := sf_0 ⟨t, by omega⟩
    show (if t = 0 then 1 else 0) = _
    rw [show sfN 0 t = if t = 0 then 1 else 0 from this]
  | j + 1, t, hj, ht => by
    have := sf_r ⟨j, by omega⟩ ⟨t, by omega⟩
    show ((List.range 10).map (fun d => rch j (t - d))).sum = _
    rw [show sfN (j + 1) t = ((List.range 10).map (fun d => sfN j (t - d))).sum from this]
    congr 1
    apply List.map_congr_left
    intro d _
    exact rch_sf j (t - d) (by omega) (by omega)
theorem idiv55 {k : Nat} (hk : k < 1000000) : nI k / 55 = nI (k / 55) := by
  rw [← Int32.toInt_inj, show (55 : Int32) = nI 55 from rfl, nN_toInt (by omega)]
  rw [Int32.toInt_div_of_ne_right _ _ (by decide), nN_toInt (by omega), nN_toInt (by omega)]
  rfl
theorem imod55 {k : Nat} (hk : k < 1000000) : nI k - nI k / 55 * 55 = nI (k % 55) := by
  rw [idiv55 hk, show (55 : Int32) = nI 55 from rfl, nN_mul, nN_sub (by omega)]
  congr 1
  omega
def w46 (c _k : Nat) : Bool := c == 46
def GK (h : MH) : Prop := h.1 = 47 ∧ gR h 42 11 = 46
theorem gk_ok {h : MH} (g : GK h) (x : Option MH) : gkW h x = x := by
  unfold gkW
  rw [g.1, g.2]
  rfl
theorem GK_s {h : MH} (g : GK h) (k : Nat) (v : Int32) : GK (sI h 46 k v) := g
def ixE (k : Nat) : Nat := exN (k / 55) (k % 55)
def ixS (k : Nat) : Nat := sfN (k / 55) (k % 55)
theorem lTab2 {h0 : MH} : ∀ (q f : Nat) (h : MH), q ≤ 384 → q < f → GK h → Fr w46 h0 h → (∀ k, q ≤ k → k < 385 → gI h 46 k = nI (ixS k)) → (∀ k, k < q → gI h 46 k = nI (ixE k)) → ∃ h', (L_W f).2.2 (nI q + -1) h = some h' ∧ GK h' ∧ Fr w46 h0 h' ∧ ∀ k, k < 385 → gI h' 46 k = nI (ixS k) := by
  intro q
  induction q with
  | zero =>
    intro f h hq hf g fr e1 e2
    obtain ⟨f, rfl⟩ : ∃ z, f = z + 1 := ⟨f - 1, by omega⟩
    refine ⟨h, ?_, g, fr, fun k hk => e1 k (by omega) hk⟩
    show F_W_179 (L_W f) (nI 0 + -1) h = _
    unfold F_W_179
    rw [if_pos (by decide)]
  | succ q ih =>
    intro f h hq hf g fr e1 e2
    obtain ⟨f, rfl⟩ : ∃ z, f = z + 1 := ⟨f - 1, by omega⟩
    rw [show (L_W (f + 1)).2.2 = F_W_179 (L_W f) from rfl, ← nI_m1 (k := q)]
    unfold F_W_179
    have ib : inB (nI q) 385 = true := by rw [inB_nI (by omega)]; omega
    have ib2 : inB (nI (q + 1)) 385 = true := by rw [inB_nI (by omega)]; omega
    rw [show (0 : Int32) = nI 0 from rfl, if_neg (by rw [nN_lt (by omega) (by omega)]; omega), if_neg (by decide), imod55 (by omega)]
    by_cases z : q % 55 = 54
    · rw [if_pos (by rw [z]; rfl)]
      refine ih f h (by omega) (by omega) g fr (fun k h1 h2 => ?_) (fun k h1 => e2 k (by omega))
      by_cases y : k = q
      · subst y
        rw [e2 k (by omega)]
        unfold ixE ixS
        rw [z]
        have := sf_e ⟨k / 55, by omega⟩
        rw [show sfN (k / 55) 54 = exN (k / 55) 54 from this]
      · exact e1 k (by omega) h2
    · rw [if_neg (by rw [show (54 : Int32) = nI 54 from rfl, nN_inj (by omega) (by omega)]; exact z), gk_ok g, if_pos ib, gk_ok g, show nI q + 1 = nI (q + 1) from nN_add q 1, if_pos ib2, if_pos ib, iN_nI (by omega), iN_nI (by omega), e2 q (by omega), e1 (q + 1) (by omega) (by omega), nN_add]
      refine ih f _ (by omega) (by omega) (GK_s g _ _) (fr.sI 46 q _ rfl) (fun k h1 h2 => ?_) (fun k h1 => ?_)
      · rw [gI_sI]
        by_cases y : k = q
        · subst y
          rw [if_pos ⟨rfl, rfl⟩]
          have := sf_s ⟨k / 55, by omega⟩ ⟨k % 55, by omega⟩
          have t : sfN (k / 55) (k % 55) = exN (k / 55) (k % 55) + sfN (k / 55) (k % 55 + 1) := this
          unfold ixE ixS
          rw [t, show (k + 1) / 55 = k / 55 by omega, show (k + 1) % 55 = k % 55 + 1 by omega]
        · rw [if_neg (by omega)]; exact e1 k (by omega) h2
      · rw [gI_sI, if_neg (by omega)]; exact e2 k (by omega)
theorem lTab1 {h0 : MH} : ∀ (e i f : Nat) (h : MH), i + e = 385 → 55 ≤ i → 13 * e + 500 < f → GK h → Fr w46 h0 h → (∀ k, k < i → gI h 46 k = nI (ixE k)) → (∀ k, i ≤ k → k < 385 → gI h 46 k = 0) → ∃ h', (L_W f).1 (nI i) h = some h' ∧ GK h' ∧ Fr w46 h0 h' ∧ ∀ k, k < 385 → gI h' 46 k = nI (ixS k) := by
  intro e
  induction e with
  | zero =>
    intro i f h he hi hf g fr e1 e2
    obtain ⟨f, rfl⟩ : ∃ z, f = z + 1 := ⟨f - 1, by omega⟩
    have : i = 385 := by omega
    subst this
    show ∃ h', F_W_112 (L_W f) (nI 385) h = _ ∧ _
    unfold F_W_112
    rw [gk_ok g, if_pos (by decide), gk_ok g, show nI 385 - 2 = nI 384 + -1 from by decide]
    refine lTab2 384 (f + 1) h (by omega) (by omega) g fr (fun k h1 h2 => ?_) (fun k h1 => e1 k (by omega))
    have : k = 384 := by omega
    subst this
    rw [e1 384 (by omega)]
    rfl
  | succ e ih =>
    intro i f h he hi hf g fr e1 e2
    obtain ⟨f, rfl⟩ : ∃ z, f = z + 1 := ⟨f - 1, by omega⟩
    show ∃ h', F_W_112 (L_W f) (nI i) h = _ ∧ _
    unfold F_W_112
    rw [gk_ok g, if_neg (by rw [nN_le (by omega) (by omega)]; omega), if_neg (by decide), imod55 (by omega)]
    have ib : inB (nI i) 385 = true := by rw [inB_nI (by omega)]; omega
    have xs := ex_s ⟨i / 55 - 1, by omega⟩ ⟨i % 55, by omega⟩
    have xs' : pex (i / 55 - 1) (i % 55) (min 10 (i % 55 + 1)) = exN (i / 55 - 1 + 1) (i % 55) := xs
    have inner : ∀ (c d f : Nat) (h : MH), d + c = min 10 (i % 55 + 1) → 13 * e + c + 501 < f → GK h → Fr w46 h0 h → gI h 46 i = nI (pex (i / 55 - 1) (i % 55) d) → (∀ k, k < i → gI h 46 k = nI (ixE k)) → (∀ k, i < k → k < 385 → gI h 46 k = 0) → ∃ h', (L_W f).2.1 (nI i) (nI (i % 55)) (nI d) h = some h' ∧ GK h' ∧ Fr w46 h0 h' ∧ ∀ k, k < 385 → gI h' 46 k = nI (ixS k) := by
      intro c
      induction c with
      | zero =>
        intro d f h hd hf g fr e0 e1 e2
        obtain ⟨f, rfl⟩ : ∃ z, f = z + 1 := ⟨f - 1, by omega⟩
        have go : ∃ h', (L_W f).1 (nI (i + 1)) h = some h' ∧ GK h' ∧ Fr w46 h0 h' ∧ ∀ k, k < 385 → gI h' 46 k = nI (ixS k) := ih (i + 1) f h (by omega) (by omega) (by omega) g fr (fun k hk => by
          by_cases y : k = i
          · subst y
            rw [e0, show d = min 10 (k % 55 + 1) by omega, xs', show k / 55 - 1 + 1 = k / 55 by omega]
            rfl
          · exact e1 k (by omega)) (fun k h1 h2 => e2 k (by omega) h2)
        show ∃ h', F_W_128 (L_W f) (nI i) (nI (i % 55)) (nI d) h = _ ∧ _
        unfold F_W_128
        rw [show nI i + 1 = nI (i + 1) from nN_add i 1]
        by_cases y : 9 < d
        · rw [show (9 : Int32) = nI 9 from rfl, if_pos (by rw [nN_lt (by omega) (by omega)]; exact y)]
          exact go
        · rw [show (9 : Int32) = nI 9 from rfl, if_neg (by rw [nN_lt (by omega) (by omega)]; exact y), if_pos (by rw [nN_lt (by omega) (by omega)]; omega)]
          exact go
      | succ c ihc =>
        intro d f h hd hf g fr e0 e1 e2
        obtain ⟨f, rfl⟩ : ∃ z, f = z + 1 := ⟨f - 1, by omega⟩
        show ∃ h', F_W_128 (L_W f) (nI i) (nI (i % 55)) (nI d) h = _ ∧ _
        unfold F_W_128
        have ib2 : inB (nI (i - 55 - d)) 385 = true := by rw [inB_nI (by omega)]; omega
        have ev : ixE (i - 55 - d) = exN (i / 55 - 1) (i % 55 - d) := by
          unfold ixE
          rw [show (i - 55 - d) / 55 = i / 55 - 1 by omega, show (i - 55 - d) % 55 = i % 55 - d by omega]
        rw [show (9 : Int32) = nI 9 from rfl, if_neg (by rw [nN_lt (by omega) (by omega)]; omega), if_neg (by rw [nN_lt (by omega) (by omega)]; omega), gk_ok g, if_pos ib, gk_ok g, show (55 : Int32) = nI 55 from rfl, nN_sub (by omega), nN_sub (by omega), if_pos ib2, if_pos ib, iN_nI (by omega), iN_nI (by omega), e0, e1 (i - 55 - d) (by omega), nN_add, ev, show nI d + 1 = nI (d + 1) from nN_add d 1]
        refine ihc (d + 1) f _ (by omega) (by omega) (GK_s g _ _) (fr.sI 46 i _ rfl) ?_ (fun k hk => ?_) (fun k h1 h2 => ?_)
        · rw [gI_sI, if_pos ⟨rfl, rfl⟩]; rfl
        · rw [gI_sI, if_neg (by omega)]; exact e1 k hk
        · rw [gI_sI, if_neg (by omega)]; exact e2 k h1 h2
    exact inner (min 10 (i % 55 + 1)) 0 (f + 1) h (by omega) (by omega) g fr (by rw [e2 i (by omega) (by omega)]; rfl) e1 (fun k h1 h2 => e2 k (by omega) h2)
theorem ix1 : ∀ k : Fin 55, ixE k = if k.val = 0 then 1 else 0 := by decide +kernel
/-- the walk's maker: its table stands, all else is as its rows say -/
theorem eWalkMk {N : Nat} (hN : 10000 < N) {h : MH} (e : h.1 = 42) : ∃ x, f_Walk_init_42 N h = some x ∧ Fr w46 (e0W (42, h.2)) x ∧ IvWt x := by
  have g : GK (e0W (42, h.2)) := ⟨rfl, rfl⟩
  obtain ⟨x, a1, a2, a3, a4⟩ := lTab1 (h0 := e0W (42, h.2)) 330 55 (N + 1) (e0W (42, h.2)) (by omega) (by omega) (by omega) g Fr.rfl (fun k hk => by
    have i := ix1 ⟨k, hk⟩
    have i' : ixE k = if k = 0 then 1 else 0 := i
    unfold e0W
    rw [gI_sI, i']
    by_cases z : k = 0
    · rw [if_pos ⟨rfl, z⟩, if_pos z]; rfl
    · rw [if_neg (by omega), if_neg z]; rfl) (fun k h1 h2 => by
    unfold e0W
    rw [gI_sI, if_neg (by omega)]; rfl)
  have a1' : F_W_112 (L_W N) 55 (e0W (42, h.2)) = some x := a1
  refine ⟨x, ?_, a3, fun j t hj ht => ?_⟩
  · unfold f_Walk_init_42
    rw [e]
    show (F_W_112 (L_W N) 55 (e0W (42, h.2))).bind _ = _
    rw [a1', bnd_some, a2.1]
    show some (47, x.2) = some x
    rw [← a2.1]
  · rw [a4 (55 * j + t) (by omega), rch_sf j t hj ht]
    unfold ixS
    rw [show (55 * j + t) / 55 = j by omega, show (55 * j + t) % 55 = t by omega]
