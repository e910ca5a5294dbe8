/-! SLIPS: a block of numbers taken at once -/
theorem eNoteFirst {N : Nat} (h : MH) : ∃ h', f_Walk_noteFirst N h = some h' ∧ Fr (fun a _ => a == 43) h h' ∧ (gI h 42 4 = 0 → ∀ c, c < 6 → gI h' 43 c = gI h 40 c) ∧ (gI h 42 4 ≠ 0 → ∀ c, gI h' 43 c = gI h 43 c) := by
  unfold f_Walk_noteFirst
  by_cases g : gI h 42 4 = 0
  · rw [if_pos g, if_pos (by decide)]
    refine ⟨_, rfl, Fr.rfl.cI _ _ _ _ _ (fun _ _ _ => rfl), fun _ c hc => ?_, fun q => absurd g q⟩
    rw [gI_cI, if_pos ⟨rfl, by show 0 ≤ c; omega, by show c < 0 + 6; omega⟩]
    show gI h 40 (0 + (c - 0)) = _
    congr 1; omega
  · rw [if_neg g]
    exact ⟨h, rfl, Fr.rfl, fun q => absurd q g, fun _ _ => rfl⟩
theorem eNoteEnds {N : Nat} (a b : Int32) (h : MH) : ∃ h', f_Walk_noteEnds N a b h = some h' ∧ Fr (fun c k => c == 42 && (k == 6 || k == 7)) h h' ∧ (gI h 42 4 = 0 → gI h' 42 6 = a ∧ gI h' 42 7 = b) ∧ (gI h 42 4 ≠ 0 → (gI h' 42 6).toInt = min (gI h 42 6).toInt a.toInt ∧ (gI h' 42 7).toInt = max (gI h 42 7).toInt b.toInt) := by
  unfold f_Walk_noteEnds F_Walk_noteEnds_20
  by_cases g : gI h 42 4 = 0
  · have g' : ∀ v, gI (sI h 42 6 v) 42 4 = 0 := fun v => g
    rw [if_pos g]
    dsimp only
    rw [if_pos (g' a)]
    exact ⟨_, rfl, (Fr.rfl.sI 42 6 _ rfl).sI 42 7 _ rfl, fun _ => ⟨rfl, rfl⟩, fun q => absurd g q⟩
  · have g' : ∀ v, ¬ gI (sI h 42 6 v) 42 4 = 0 := fun v => g
    obtain ⟨q1, a1, a2⟩ := mnI2 (N := N) (gI h 42 6) a h
    rw [if_neg g, a1, bnd_some]
    dsimp only
    rw [if_neg (g' q1)]
    obtain ⟨q2, b1, b2⟩ := mxI (N := N) (gI (sI h 42 6 q1) 42 7) b (sI h 42 6 q1)
    rw [b1, bnd_some]
    exact ⟨_, rfl, (Fr.rfl.sI 42 6 _ rfl).sI 42 7 _ rfl, fun q => absurd q g, fun _ => ⟨a2, b2⟩⟩
theorem pos_nI {k : Nat} (hk : k < 2147483648) : ((0 : Int32) < nI k) = (0 < k) := nN_lt (a := 0) (by omega) hk
/-- the block from B to B' is seen, of which M are such -/
theorem RW_take {P : PB} {s sm set need : Nat} {once : Bool} {h h' : MH} {B B' M Q a b k1 : Nat} (p1 : P.1 ≤ 6) (r : RW' P s sm set need once h B) (ho : once = true → gI h 42 4 = 0) (hB : B ≤ B') (hB' : B' ≤ 10 ^ P.1)
    (k11 : B ≤ k1) (k12 : k1 < B') (k13 : vld P s sm k1) (k14 : ∀ k, B ≤ k → k < k1 → ¬ vld P s sm k)
    (hM : cn (fun i => vld P s sm (B + i)) (B' - B) = M) (hQ : once = false → cn (fun i => vld P s sm (B + i) ∧ need ≤ sm6 set (dg P.1 (B + i)) P.1) (B' - B) = Q)
    (a54 : a ≤ 54) (b54 : b ≤ 54) (ha : once = false → (∃ k, B ≤ k ∧ k < B' ∧ vld P s sm k ∧ sm6 set (dg P.1 k) P.1 = a) ∧ ∀ k, B ≤ k → k < B' → vld P s sm k → a ≤ sm6 set (dg P.1 k) P.1)
    (hb : once = false → (∃ k, B ≤ k ∧ k < B' ∧ vld P s sm k ∧ sm6 set (dg P.1 k) P.1 = b) ∧ ∀ k, B ≤ k → k < B' → vld P s sm k → sm6 set (dg P.1 k) P.1 ≤ b)
    (e4 : gI h' 42 4 = gI h 42 4 + nI M) (e5 : once = false → gI h' 42 5 = gI h 42 5 + nI Q)
    (e43 : gI h 42 4 = 0 → ∀ c, c < P.1 → gI h' 43 c = nI (dg P.1 k1 c)) (e43' : gI h 42 4 ≠ 0 → ∀ c, gI h' 43 c = gI h 43 c)
    (e67 : gI h 42 4 = 0 → gI h' 42 6 = nI a ∧ gI h' 42 7 = nI b) (e67' : gI h 42 4 ≠ 0 → (gI h' 42 6).toInt = min (gI h 42 6).toInt a ∧ (gI h' 42 7).toInt = max (gI h 42 7).toInt b) : RW' P s sm set need once h' B' := by
  have hten := ten6 p1
  have hBB : B' = B + (B' - B) := by omega
  have M1 : 0 < M := by
    rw [← hM]
    apply Nat.pos_of_ne_zero
    intro z
    exact cn_zero.mp z (k1 - B) (by omega) (by rw [show B + (k1 - B) = k1 by omega]; exact k13)
  have Ml : M ≤ B' - B := by rw [← hM]; exact cn_le _ _
  have cnB : cn (vld P s sm) B' = cn (vld P s sm) B + M := by rw [← hM]; conv => lhs; rw [hBB]; rw [cn_add]
  obtain ⟨fp, fu⟩ := r
  refine ⟨?_, fun o => ?_⟩
  · right
    rcases fp with ⟨z, nb⟩ | ⟨z, k0, f1, f2, f3⟩
    · refine ⟨?_, k1, ⟨k13, fun i hi => ?_⟩, by omega, e43 z⟩
      · rw [e4, z, show (0 : Int32) + nI M = nI M by grind, pos_nI (by omega)]; exact M1
      · rcases Nat.lt_or_ge i B with q | q
        · exact nb i q
        · exact k14 i q hi
    · have nz : gI h 42 4 ≠ 0 := by intro q; rw [q] at z; revert z; decide
      have of : once = false := by
        cases once with
        | false => rfl
        | true => exact absurd (ho rfl) nz
      have c0 := (fu of).1
      have cl := cn_le (vld P s sm) B
      refine ⟨?_, k0, f1, f2, fun c hc => by rw [e43' nz c]; exact f3 c hc⟩
      rw [e4, c0, nN_add, pos_nI (by omega)]; omega
  · obtain ⟨c0, c1, c2⟩ := fu o
    have cl := cn_le (vld P s sm) B
    refine ⟨by rw [e4, c0, nN_add, cnB], ?_, fun _ => ?_⟩
    · have e9 : cn (fun k => vld P s sm k ∧ need ≤ sm6 set (dg P.1 k) P.1) B' = cn (fun k => vld P s sm k ∧ need ≤ sm6 set (dg P.1 k) P.1) B + Q := by rw [← hQ o]; conv => lhs; rw [hBB]; rw [cn_add]
      rw [e5 o, c1, nN_add, e9]
    · obtain ⟨⟨ka, a1, a2, a3, a4⟩, a5⟩ := ha o
      obtain ⟨⟨kb, b1, b2, b3, b4⟩, b5⟩ := hb o
      by_cases z : cn (vld P s sm) B = 0
      · have z4 : gI h 42 4 = 0 := by rw [c0, z]; rfl
        obtain ⟨w1, w2⟩ := e67 z4
        have nb := cn_zero.mp z
        refine ⟨a, b, a54, b54, w1, w2, ⟨ka, a2, a3, a4⟩, fun k hk hv => ?_, ⟨kb, b2, b3, b4⟩, fun k hk hv => ?_⟩
        · exact a5 k (by rcases Nat.lt_or_ge k B with q | q; exact absurd hv (nb k q); exact q) hk hv
        · exact b5 k (by rcases Nat.lt_or_ge k B with q | q; exact absurd hv (nb k q); exact q) hk hv
      · have z4 : gI h 42 4 ≠ 0 := by
          rw [c0]; intro q
          have : (nI (cn (vld P s sm) B) = 0) = (cn (vld P s sm) B = 0) := nN_inj (b := 0) (by omega) (by omega)
          rw [this] at q; exact z q
        obtain ⟨w1, w2⟩ := e67' z4
        obtain ⟨l, m, l54, m54, g6, g7, ⟨x1, y1, y2, y3⟩, y4, ⟨x2, y5, y6, y7⟩, y8⟩ := c2 (by omega)
        rw [g6, nN_toInt (by omega)] at w1
        rw [g7, nN_toInt (by omega)] at w2
        refine ⟨min l a, max m b, by omega, by omega, ?_, ?_, ?_, fun k hk hv => ?_, ?_, fun k hk hv => ?_⟩
        · rw [← Int32.toInt_inj, w1, nN_toInt (by omega)]; omega
        · rw [← Int32.toInt_inj, w2, nN_toInt (by omega)]; omega
        · rcases Nat.le_total l a with q | q
          · exact ⟨x1, by omega, y2, by omega⟩
          · exact ⟨ka, a2, a3, by omega⟩
        · rcases Nat.lt_or_ge k B with q | q
          · have := y4 k q hv; omega
          · have := a5 k q hk hv; omega
        · rcases Nat.le_total b m with q | q
          · exact ⟨x2, by omega, y6, by omega⟩
          · exact ⟨kb, b2, b3, by omega⟩
        · rcases Nat.lt_or_ge k B with q | q
          · have := y8 k q hv; omega
          · have := b5 k q hk hv; omega
theorem cnI (a e : Nat) : ∀ L, cn (fun i => a ≤ i ∧ i < e) L = min e L - min a L
  | 0 => by simp [cn]
  | L + 1 => by
    have ih := cnI a e L
    by_cases q : a ≤ L ∧ L < e
    · rw [cn_yes (f := fun i => a ≤ i ∧ i < e) q, ih]; omega
    · rw [cn_no (f := fun i => a ≤ i ∧ i < e) q, ih]; omega
theorem sm6_congr {set : Nat} {x y : Nat → Nat} : ∀ {c : Nat}, (∀ i, i < c → x i = y i) → sm6 set x c = sm6 set y c
  | 0, _ => rfl
  | c + 1, h => by unfold sm6; rw [sm6_congr (fun i hi => h i (by omega)), h c (by omega)]
/-- the last cell: its digit, whatever stands ahead -/
theorem dg_last {n : Nat} (hn : 0 < n) {x : Nat → Nat} (x9 : ∀ i, x i < 10) {d : Nat} (hd : d < 10) : (∀ i, i < n - 1 → dg n (bs n x (n - 1) + d) i = x i) ∧ dg n (bs n x (n - 1) + d) (n - 1) = d := by
  have e1 : 10 ^ (n - (n - 1)) = 10 := by rw [show n - (n - 1) = 1 by omega]
  refine ⟨bs_dg x9 (n - 1) d (by omega) (by rw [e1]; exact hd), ?_⟩
  have := bs_dg (n := n) (x := fun i => if i = n - 1 then d else x i) (fun i => by by_cases q : i = n - 1; simp only [q, if_true]; exact hd; simp only [q, if_false]; exact x9 i) (n - 1 + 1) 0 (by omega) (by apply Nat.pow_pos; omega) (n - 1) (by omega)
  simp only [if_true] at this
  rw [Nat.add_zero] at this
  have e : bs n x (n - 1) + d = bs n (fun i => if i = n - 1 then d else x i) (n - 1 + 1) := by
    show _ = bs n _ (n - 1) + _ * 10 ^ (n - 1 - (n - 1))
    simp only [if_true, Nat.sub_self, Nat.pow_zero, Nat.mul_one]
    rw [bs_congr (n - 1) (fun i hi => by show x i = if i = n - 1 then d else x i; rw [if_neg (by omega)])]
  rw [e]
  exact this
theorem set_d : ∀ s : Fin 64, ∀ c : Fin 6, (nI s >>> (nI c &&& 31)) &&& 1 = if s.val.testBit c.val = true then 1 else 0 := by decide +kernel
theorem eTakeLast {N : Nat} (hN : 100 < N) {P : PB} {mv s sm set need : Nat} {once : Bool} (hset : set < 64) (hneed : need ≤ 54) (hn : 0 < P.1) {h : MH} {x : Nat → Nat} (as : AS P mv h) (px : PX P h (P.1 - 1) x) (x9 : ∀ i, x i < 10) (h1 : gI h 42 1 = nI set) (h2 : gI h 42 2 = nI need) {F T : Nat} (hF : gI h 44 (P.1 - 1) = nI F) (hT : gI h 45 (P.1 - 1) = nI T) (hFT : F ≤ T) (hT9 : T ≤ 9)
    (hv : ∀ d, d < 10 → (vld P s sm (bs P.1 x (P.1 - 1) + d) ↔ F ≤ d ∧ d ≤ T)) (r : RW' P s sm set need once h (bs P.1 x (P.1 - 1))) (ho : once = true → gI h 42 4 = 0) :
    ∃ h', f_Walk_takeLast N (nI (P.1 - 1)) (nI (sm6 set x (P.1 - 1))) h = some h' ∧ Fr (wB (P.1 - 1)) h h' ∧ RW' P s sm set need once h' (bs P.1 x (P.1 - 1) + 10) := by
  have p1 := as.1
  have c6 : P.1 - 1 < 6 := by omega
  have n0 : 0 < P.1 := hn
  have hbl := bs_lt (n := P.1) x9 (P.1 - 1) (by omega)
  rw [show 10 ^ (P.1 - (P.1 - 1)) = 10 by rw [show P.1 - (P.1 - 1) = 1 by omega]] at hbl
  have hg := sm6_le (set := set) x9 (P.1 - 1)
  generalize hc : P.1 - 1 = c at *
  have pc : P.1 = c + 1 := by omega
  -- what a number of the block slips together
  have S : ∀ d, d < 10 → sm6 set (dg P.1 (bs P.1 x c + d)) P.1 = sm6 set x c + (if set.testBit c = true then d else 0) := by
    intro d hd
    have := dg_last (n := P.1) hn x9 hd
    rw [hc] at this
    obtain ⟨q1, q2⟩ := this
    have e : sm6 set (dg P.1 (bs P.1 x c + d)) P.1 = sm6 set (dg P.1 (bs P.1 x c + d)) (c + 1) := by rw [← pc]
    rw [e]
    show sm6 set _ c + _ = _
    rw [sm6_congr q1, q2]
  have ib : inB (nI c) 6 = true := by rw [inB_nI (by omega)]; exact c6
  obtain ⟨y1, a1, a2, a3⟩ := ePut (N := N) hN c6 (d := F) (by omega) as px x9
  obtain ⟨y2, b1, b2, b3, b4⟩ := eNoteFirst (N := N) y1
  have sbit := set_d ⟨set, hset⟩ ⟨c, c6⟩
  dsimp only at sbit
  have g44 : gI y2 44 c = nI F := by rw [b2.i 44 c rfl, a2.i 44 c rfl, hF]
  have g45 : gI y2 45 c = nI T := by rw [b2.i 45 c rfl, a2.i 45 c rfl, hT]
  have isn : ∀ w, nI w * (if set.testBit c = true then (1 : Int32) else 0) = nI (if set.testBit c = true then w else 0) := by
    intro w; split
    · rw [L1, nN_mul, Nat.mul_one]
    · rw [L0, nN_mul, Nat.mul_zero]
  obtain ⟨y3, d1, d2, d3, d4⟩ := eNoteEnds (N := N) (nI (sm6 set x c) + nI F * (if set.testBit c = true then (1 : Int32) else 0)) (nI (sm6 set x c) + nI T * (if set.testBit c = true then (1 : Int32) else 0)) y2
  have frA : Fr (wB c) h y3 := ((a2.mono (fun a b q => by unfold wB at q; simp at q ⊢; omega)).trans (b2.mono (fun a b q => by unfold wB at q; simp at q ⊢; omega))).trans (d2.mono (fun a b q => by unfold wB at q; simp at q ⊢; omega))
  have k4 : gI y2 42 4 = gI h 42 4 := by rw [b2.i 42 4 rfl, a2.i 42 4 rfl]
  have k4' : gI y1 42 4 = gI h 42 4 := a2.i 42 4 rfl
  have k5 : gI y3 42 5 = gI h 42 5 := by rw [d2.i 42 5 rfl, b2.i 42 5 rfl, a2.i 42 5 rfl]
  have k43 : gI y3 42 4 = gI h 42 4 := by rw [d2.i 42 4 rfl, k4]
  have k2 : gI y3 42 2 = nI need := by rw [d2.i 42 2 rfl, b2.i 42 2 rfl, a2.i 42 2 rfl, h2]
  have t44 : gI y3 44 c = nI F := by rw [d2.i 44 c rfl, g44]
  have t45 : gI y3 45 c = nI T := by rw [d2.i 45 c rfl, g45]
  have many : nI T - nI F + 1 = nI (T + 1 - F) := by rw [nN_sub hFT, show nI (T - F) + 1 = nI (T - F + 1) from nN_add _ 1]; congr 1; omega
  -- how many come to what is needed
  have hQ : cn (fun i => vld P s sm (bs P.1 x c + i) ∧ need ≤ sm6 set (dg P.1 (bs P.1 x c + i)) P.1) (bs P.1 x c + 10 - bs P.1 x c) = if set.testBit c = true then T + 1 - max F (need - sm6 set x c) else if need ≤ sm6 set x c then T + 1 - F else 0 := by
    rw [show bs P.1 x c + 10 - bs P.1 x c = 10 by omega]
    by_cases q : set.testBit c = true
    · rw [if_pos q, cn_congr (g := fun i => max F (need - sm6 set x c) ≤ i ∧ i < T + 1) (fun i hi => by rw [hv i hi, S i hi, if_pos q]; omega), cnI]
      omega
    · rw [if_neg q]
      by_cases q2 : need ≤ sm6 set x c
      · rw [if_pos q2, cn_congr (g := fun i => F ≤ i ∧ i < T + 1) (fun i hi => by rw [hv i hi, S i hi, if_neg q]; omega), cnI]
        omega
      · rw [if_neg q2]
        exact cn_zero.mpr (fun i hi z => by have := z.2; rw [S i hi, if_neg q] at this; omega)
  have hMc : cn (fun i => vld P s sm (bs P.1 x c + i)) (bs P.1 x c + 10 - bs P.1 x c) = T + 1 - F := by
    rw [show bs P.1 x c + 10 - bs P.1 x c = 10 by omega, cn_congr (g := fun i => F ≤ i ∧ i < T + 1) (fun i hi => by rw [hv i hi]; omega), cnI]
    omega
  -- the end
  have fin : ∀ (y : MH) (Q : Nat), Fr (fun a b => a == 42 && (b == 4 || b == 5)) y3 y → gI y 42 4 = gI h 42 4 + nI (T + 1 - F) → gI y 42 5 = gI h 42 5 + nI Q → Q = (if set.testBit c = true then T + 1 - max F (need - sm6 set x c) else if need ≤ sm6 set x c then T + 1 - F else 0) → ∃ h', some y = some h' ∧ Fr (wB c) h h' ∧ RW' P s sm set need once h' (bs P.1 x c + 10) := by
    intro y Q fy q4 q5 qQ
    refine ⟨y, rfl, frA.trans (fy.mono (fun a b q => by unfold wB at q; simp at q ⊢; omega)), ?_⟩
    refine RW_take (B := bs P.1 x c) (B' := bs P.1 x c + 10) (M := T + 1 - F) (Q := Q) (a := sm6 set x c + (if set.testBit c = true then F else 0)) (b := sm6 set x c + (if set.testBit c = true then T else 0)) (k1 := bs P.1 x c + F) p1 r ho (by omega) (by omega) (by omega) (by omega) ((hv F (by omega)).mpr ⟨Nat.le_refl _, hFT⟩) (fun k z1 z2 z => ?_) hMc (fun _ => by rw [qQ]; exact hQ) (by split <;> omega) (by split <;> omega) (fun _ => ⟨⟨bs P.1 x c + F, by omega, by omega, (hv F (by omega)).mpr ⟨Nat.le_refl _, hFT⟩, S F (by omega)⟩, fun k z1 z2 z => ?_⟩) (fun _ => ⟨⟨bs P.1 x c + T, by omega, by omega, (hv T (by omega)).mpr ⟨hFT, Nat.le_refl _⟩, S T (by omega)⟩, fun k z1 z2 z => ?_⟩) q4 (fun _ => q5) (fun z i hi => ?_) (fun z i => ?_) (fun z => ?_) (fun z => ?_)
    · obtain ⟨d, rfl⟩ : ∃ d, k = bs P.1 x c + d := ⟨k - bs P.1 x c, by omega⟩
      have := (hv d (by omega)).mp z; omega
    · obtain ⟨d, rfl⟩ : ∃ d, k = bs P.1 x c + d := ⟨k - bs P.1 x c, by omega⟩
      have := (hv d (by omega)).mp z
      rw [S d (by omega)]; split <;> omega
    · obtain ⟨d, rfl⟩ : ∃ d, k = bs P.1 x c + d := ⟨k - bs P.1 x c, by omega⟩
      have := (hv d (by omega)).mp z
      rw [S d (by omega)]; split <;> omega
    · have := dg_last (n := P.1) hn x9 (d := F) (by omega)
      rw [hc] at this
      rw [fy.i 43 _ rfl, d2.i 43 _ rfl, b3 (by rw [k4']; exact z) i (by omega), a3.1 i (by omega)]
      by_cases w : i = c
      · rw [w, this.2]; simp
      · rw [this.1 i (by omega)]; simp [w]
    · rw [fy.i 43 _ rfl, d2.i 43 _ rfl, b4 (by rw [k4']; exact z), a2.i 43 _ rfl]
    · obtain ⟨w1, w2⟩ := d3 (by rw [k4]; exact z)
      rw [fy.i 42 6 rfl, fy.i 42 7 rfl, w1, w2, isn, isn, nN_add, nN_add]
      exact ⟨rfl, rfl⟩
    · obtain ⟨w1, w2⟩ := d4 (by rw [k4]; exact z)
      have m6 : gI y2 42 6 = gI h 42 6 := by rw [b2.i 42 6 rfl, a2.i 42 6 rfl]
      have m7 : gI y2 42 7 = gI h 42 7 := by rw [b2.i 42 7 rfl, a2.i 42 7 rfl]
      rw [isn, nN_add, nN_toInt (by split <;> omega), m6] at w1
      rw [isn, nN_add, nN_toInt (by split <;> omega), m7] at w2
      rw [fy.i 42 6 rfl, fy.i 42 7 rfl, w1, w2]
      exact ⟨rfl, rfl⟩
  unfold f_Walk_takeLast
  dsimp only
  rw [h1, sbit, iN_nI (by omega), hF, hT]
  simp only [ib, if_true]
  rw [a1, bnd_some, b1, bnd_some, g44, g45, d1, bnd_some]
  have e44 : ∀ v, gI (sI y3 42 4 v) 44 c = nI F := fun v => t44
  have e45 : ∀ v, gI (sI y3 42 4 v) 45 c = nI T := fun v => t45
  have e2 : ∀ v, gI (sI y3 42 4 v) 42 2 = nI need := fun v => k2
  have e5 : ∀ v, gI (sI y3 42 4 v) 42 5 = gI h 42 5 := fun v => k5
  rw [k43, many]
  simp only [bz]
  by_cases q : set.testBit c = true
  · rw [if_neg (by simp [q]), e44, e45, e2, e5]
    obtain ⟨q1, u1, u2⟩ := mxI (N := N) (nI F) (nI need - nI (sm6 set x c)) (sI y3 42 4 (gI h 42 4 + nI (T + 1 - F)))
    rw [u1, bnd_some]
    dsimp only
    have nd : (nI need - nI (sm6 set x c)).toInt = (need : Int) - sm6 set x c := by rw [i_sub, nN_toInt (by omega), nN_toInt (by omega)] <;> rw [nN_toInt (by omega), nN_toInt (by omega)] <;> omega
    rw [nd, nN_toInt (by omega)] at u2
    obtain ⟨q2, w1, w2⟩ := mxI (N := N) 0 (nI T - q1 + 1) (sI y3 42 4 (gI h 42 4 + nI (T + 1 - F)))
    rw [w1, bnd_some]
    have o1 : (1 : Int32).toInt = 1 := rfl
    have v1 : (nI T - q1).toInt = (T : Int) - q1.toInt := by rw [i_sub, nN_toInt (by omega)] <;> rw [nN_toInt (by omega)] <;> omega
    have v2 : (nI T - q1 + 1).toInt = (T : Int) - q1.toInt + 1 := by rw [i_add, v1, o1] <;> rw [v1, o1] <;> omega
    rw [v2, show (0 : Int32).toInt = 0 from rfl, u2] at w2
    have eq2 : q2 = nI (T + 1 - max F (need - sm6 set x c)) := by
      rw [← Int32.toInt_inj, w2, nN_toInt (by omega)]; omega
    rw [eq2]
    exact fin _ _ ((Fr.rfl.sI 42 4 _ rfl).sI 42 5 _ rfl) rfl rfl (by rw [if_pos q])
  · rw [if_pos q, e2]
    have lt : (nI (sm6 set x c) < nI need) = (sm6 set x c < need) := nN_lt (by omega) (by omega)
    simp only [lt]
    by_cases q2 : sm6 set x c < need
    · rw [if_pos q2]
      refine fin _ 0 (Fr.rfl.sI 42 4 _ rfl) rfl ?_ (by rw [if_neg q, if_neg (by omega)])
      rw [show gI h 42 5 + nI 0 = gI h 42 5 by rw [show nI 0 = (0 : Int32) from rfl]; grind]
      exact k5
    · rw [if_neg q2, e5]
      exact fin _ _ ((Fr.rfl.sI 42 4 _ rfl).sI 42 5 _ rfl) rfl rfl (by rw [if_neg q, if_pos (by omega)])
