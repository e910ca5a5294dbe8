/-! SLIPS: all that lies behind a cell, counted -/
def tl (set n : Nat) : Nat → Nat → Nat
  | 0, _ => 0
  | j + 1, i => (if set.testBit (n - 1 - j) = true then i / 10 ^ j % 10 else 0) + tl set n j i
def nbt (set n : Nat) : Nat → Nat
  | 0 => 0
  | j + 1 => nbt set n j + (if set.testBit (n - 1 - j) = true then 1 else 0)
theorem nbt_le (set n : Nat) : ∀ j, nbt set n j ≤ j
  | 0 => Nat.le_refl _
  | j + 1 => by
    have := nbt_le set n j
    unfold nbt; split <;> omega
theorem sm6_tl {set n k : Nat} : ∀ j, j ≤ n → sm6 set (dg n k) n = sm6 set (dg n k) (n - j) + tl set n j k
  | 0, _ => rfl
  | j + 1, h => by
    rw [sm6_tl j (by omega), show n - j = (n - (j + 1)) + 1 by omega]
    show sm6 set (dg n k) (n - (j + 1)) + (if set.testBit (n - (j + 1)) = true then dg n k (n - (j + 1)) else 0) + _ = _ + ((if set.testBit (n - 1 - j) = true then k / 10 ^ j % 10 else 0) + tl set n j k)
    unfold dg
    rw [show n - 1 - (n - (j + 1)) = j by omega, show n - (j + 1) = n - 1 - j by omega]
    omega
theorem dig_mul {a j e i : Nat} (h : e < j) : (a * 10 ^ j + i) / 10 ^ e % 10 = i / 10 ^ e % 10 := by
  have hp : 0 < 10 ^ e := Nat.pow_pos (by omega)
  have e1 : a * 10 ^ j = (a * 10 ^ (j - e - 1) * 10) * 10 ^ e := by
    rw [Nat.mul_assoc, Nat.mul_assoc, ← Nat.pow_succ', ← Nat.pow_add]
    congr 2; omega
  rw [e1, Nat.add_comm, Nat.add_mul_div_right _ _ hp]
  omega
theorem tl_mul {set n a : Nat} {J : Nat} : ∀ j i, j ≤ J → tl set n j (a * 10 ^ J + i) = tl set n j i
  | 0, _, _ => rfl
  | j + 1, i, h => by
    unfold tl
    rw [dig_mul (by omega), tl_mul j i (by omega)]
theorem tl_le {set n : Nat} : ∀ j i, tl set n j i ≤ 9 * nbt set n j
  | 0, _ => Nat.le_refl _
  | j + 1, i => by
    have := tl_le (set := set) (n := n) j i
    have : i / 10 ^ j % 10 < 10 := Nat.mod_lt _ (by omega)
    unfold tl nbt
    split <;> omega
theorem tl_zero {set n : Nat} : ∀ j, tl set n j 0 = 0
  | 0 => rfl
  | j + 1 => by unfold tl; rw [tl_zero j]; simp
theorem tl_max {set n J : Nat} : ∀ j, j ≤ J → tl set n j (10 ^ J - 1) = 9 * nbt set n j
  | 0, _ => rfl
  | j + 1, h => by
    unfold tl nbt
    rw [tl_max j (by omega)]
    have hp : 0 < 10 ^ j := Nat.pow_pos (by omega)
    have hq : 0 < 10 ^ (J - j - 1) := Nat.pow_pos (by omega)
    have e : 10 ^ J - 1 = (10 ^ j - 1) + (10 ^ (J - j) - 1) * 10 ^ j := by
      have : 10 ^ J = 10 ^ (J - j) * 10 ^ j := by rw [← Nat.pow_add]; congr 1; omega
      rw [this, Nat.sub_mul, Nat.one_mul]
      have : 1 * 10 ^ j ≤ 10 ^ (J - j) * 10 ^ j := Nat.mul_le_mul_right _ (Nat.pow_pos (by omega))
      omega
    have d9 : (10 ^ J - 1) / 10 ^ j % 10 = 9 := by
      rw [e, Nat.add_mul_div_right _ _ hp, Nat.div_eq_of_lt (by omega), show J - j = (J - j - 1) + 1 by omega, Nat.pow_succ]
      omega
    rw [d9]
    split <;> omega
theorem cn_blocks (f : Nat → Prop) (L : Nat) : ∀ D, cn f (D * L) = ((List.range D).map (fun d => cn (fun i => f (d * L + i)) L)).sum
  | 0 => by simp [cn]
  | D + 1 => by
    rw [Nat.succ_mul, cn_add, cn_blocks f L D, List.range_succ, List.map_append, List.sum_append]
    simp
theorem sum_mulr (f : Nat → Nat) (c : Nat) : ∀ D, ((List.range D).map (fun d => f d * c)).sum = ((List.range D).map f).sum * c
  | 0 => by simp
  | D + 1 => by
    rw [List.range_succ, List.map_append, List.sum_append, List.map_append, List.sum_append, sum_mulr f c D]
    simp [Nat.add_mul]
theorem sum_cst (v : Nat) : ∀ D, ((List.range D).map (fun _ => v)).sum = D * v
  | 0 => by simp
  | D + 1 => by
    rw [List.range_succ, List.map_append, List.sum_append, sum_cst v D, Nat.succ_mul]
    simp
theorem cn_tl {set n : Nat} : ∀ j t, cn (fun i => t ≤ tl set n j i) (10 ^ j) = rch (nbt set n j) t * 10 ^ (j - nbt set n j)
  | 0, t => by
    show cn (fun i => t ≤ 0) 1 = (if t = 0 then 1 else 0) * 1
    by_cases h : t = 0
    · rw [if_pos h, cn_yes (f := fun i => t ≤ 0) (by show t ≤ 0; omega)]; rfl
    · rw [if_neg h, cn_no (f := fun i => t ≤ 0) (by show ¬ t ≤ 0; omega)]; rfl
  | j + 1, t => by
    have hJ := nbt_le set n j
    have hp : 0 < 10 ^ j := Nat.pow_pos (by omega)
    rw [Nat.pow_succ, Nat.mul_comm (10 ^ j) 10, cn_blocks]
    have blk : ∀ d, d < 10 → ∀ i, i < 10 ^ j → tl set n (j + 1) (d * 10 ^ j + i) = (if set.testBit (n - 1 - j) = true then d else 0) + tl set n j i := by
      intro d hd i hi
      show (if set.testBit (n - 1 - j) = true then (d * 10 ^ j + i) / 10 ^ j % 10 else 0) + tl set n j (d * 10 ^ j + i) = _
      rw [tl_mul j i (Nat.le_refl _), Nat.add_comm (d * 10 ^ j) i, Nat.add_mul_div_right _ _ hp, Nat.div_eq_of_lt hi, Nat.zero_add, Nat.mod_eq_of_lt hd]
    by_cases b : set.testBit (n - 1 - j) = true
    · have e1 : ((List.range 10).map (fun d => cn (fun i => t ≤ tl set n (j + 1) (d * 10 ^ j + i)) (10 ^ j))) = ((List.range 10).map (fun d => rch (nbt set n j) (t - d) * 10 ^ (j - nbt set n j))) := by
        apply List.map_congr_left
        intro d hd
        rw [← cn_tl j (t - d)]
        refine cn_congr (fun i hi => ?_)
        rw [blk d (List.mem_range.mp hd) i hi, if_pos b]; omega
      rw [e1, sum_mulr]
      show _ = rch (nbt set n j + (if set.testBit (n - 1 - j) = true then 1 else 0)) t * 10 ^ (j + 1 - (nbt set n j + (if set.testBit (n - 1 - j) = true then 1 else 0)))
      rw [if_pos b, show j + 1 - (nbt set n j + 1) = j - nbt set n j by omega]
      rfl
    · have e1 : ((List.range 10).map (fun d => cn (fun i => t ≤ tl set n (j + 1) (d * 10 ^ j + i)) (10 ^ j))) = ((List.range 10).map (fun _ => rch (nbt set n j) t * 10 ^ (j - nbt set n j))) := by
        apply List.map_congr_left
        intro d hd
        rw [← cn_tl j t]
        refine cn_congr (fun i hi => ?_)
        rw [blk d (List.mem_range.mp hd) i hi, if_neg b]; omega
      rw [e1, sum_cst]
      show _ = rch (nbt set n j + (if set.testBit (n - 1 - j) = true then 1 else 0)) t * 10 ^ (j + 1 - (nbt set n j + (if set.testBit (n - 1 - j) = true then 1 else 0)))
      rw [if_neg b, Nat.add_zero, show j + 1 - nbt set n j = (j - nbt set n j) + 1 by omega, Nat.pow_succ, ← Nat.mul_assoc, ← Nat.mul_assoc, Nat.mul_comm _ 10, ← Nat.mul_assoc]
theorem rch0 : ∀ j, rch j 0 = 10 ^ j
  | 0 => rfl
  | j + 1 => by
    show ((List.range 10).map (fun d => rch j (0 - d))).sum = _
    have : ((List.range 10).map (fun d => rch j (0 - d))) = ((List.range 10).map (fun _ => 10 ^ j)) := by
      apply List.map_congr_left
      intro d _
      rw [Nat.zero_sub, rch0 j]
    rw [this, sum_cst, Nat.pow_succ, Nat.mul_comm]
theorem rch_le : ∀ j t, rch j t ≤ 10 ^ j
  | 0, t => by unfold rch; split <;> simp
  | j + 1, t => by
    have hs : ∀ D, ((List.range D).map (fun d => rch j (t - d))).sum ≤ D * 10 ^ j := by
      intro D
      induction D with
      | zero => simp
      | succ D ih =>
        rw [List.range_succ, List.map_append, List.sum_append, Nat.succ_mul]
        have := rch_le j (t - D)
        simp
        omega
    have := hs 10
    rw [Nat.pow_succ, Nat.mul_comm]
    exact this
theorem eWays {N : Nat} {h : MH} (hW : ∀ j t, j ≤ 6 → t ≤ 54 → gI h 46 (55 * j + t) = nI (rch j t)) {j : Nat} (hj : j ≤ 6) {v : Int32} {t : Nat} (ht : t ≤ 54) (hv : v.toInt ≤ 54 ∧ v.toInt.toNat = t) : f_Walk_waysToReach N (nI j) v h = some (nI (rch j t), h) := by
  unfold f_Walk_waysToReach
  rw [eS_isOneOf, bnd_some]
  simp only [bz]
  have z0 : (0 : Int32).toInt = 0 := rfl
  have e54 : (54 : Int32).toInt = 54 := rfl
  rw [if_neg (by rw [show (7 : Int32) = nI 7 from rfl]; simp [lt0 (show j < 7 by omega) (by omega)]), if_pos (by rw [Int32.le_iff_toInt_le, e54]; exact hv.1)]
  obtain ⟨q, a1, a2⟩ := mxI (N := N) v 0 h
  have eq : q = nI t := by rw [← Int32.toInt_inj, a2, z0, nN_toInt (by omega)]; omega
  rw [a1, bnd_some, eq]
  dsimp only
  rw [show (55 : Int32) = nI 55 from rfl, nN_mul, nN_add, if_pos (by rw [inB_nI (by omega)]; omega), iN_nI (by omega), Nat.mul_comm j 55, hW j t hj ht]
def bcI (a0 : Int32) : Int32 :=
  let v1 : Int32 := a0 - (((a0.toUInt32 >>> ((1 : Int32).toUInt32 &&& Int32.toUInt32 31)).toInt32) &&& 1431655765)
  let v2 : Int32 := (v1 &&& 858993459) + (((v1.toUInt32 >>> ((2 : Int32).toUInt32 &&& Int32.toUInt32 31)).toInt32) &&& 858993459)
  let v3 : Int32 := (v2 + ((v2.toUInt32 >>> ((4 : Int32).toUInt32 &&& Int32.toUInt32 31)).toInt32)) &&& 252645135
  let v4 : Int32 := v3 + ((v3.toUInt32 >>> ((8 : Int32).toUInt32 &&& Int32.toUInt32 31)).toInt32)
  let v5 : Int32 := v4 + ((v4.toUInt32 >>> ((16 : Int32).toUInt32 &&& Int32.toUInt32 31)).toInt32)
  v5 &&& 63
theorem bcI_d : ∀ n : Fin 7, ∀ s : Fin 64, ∀ c : Fin 6, s.val < 2 ^ n.val → c.val < n.val → bcI (nI s >>> (nI c &&& 31)) = nI (nbt s n (n.val - c.val)) := by decide +kernel
theorem eBitC {N n s c : Nat} (hn : n ≤ 6) (hs : s < 2 ^ n) (hc : c < n) (h : MH) : f_Integer_bitCount N (nI s >>> (nI c &&& 31)) h = some (nI (nbt s n (n - c)), h) := by
  have s64 : s < 64 := Nat.lt_of_lt_of_le hs (Nat.pow_le_pow_right (n := 2) (j := 6) (by omega) hn)
  have := bcI_d ⟨n, by omega⟩ ⟨s, s64⟩ ⟨c, by omega⟩ hs hc
  show some (bcI (nI s >>> (nI c &&& 31)), h) = _
  rw [this]
theorem eTakeAny {N : Nat} (hN : 100 < N) {P : PB} {mv s sm set need c : Nat} {once : Bool} (hc : c < P.1) (hset : set < 2 ^ P.1) (hneed : need ≤ 54) {h : MH} {x : Nat → Nat} (as : AS P mv h) (px : PX P h c x) (x9 : ∀ i, x i < 10) (h1 : gI h 42 1 = nI set) (h2 : gI h 42 2 = nI need) (hW : IvWt h)
    (hv : ∀ d, d < 10 ^ (P.1 - c) → vld P s sm (bs P.1 x c + d)) (r : RW' P s sm set need once h (bs P.1 x c)) (ho : once = true → gI h 42 4 = 0) :
    ∃ h', f_Walk_takeAnyFrom N (nI c) (nI (sm6 set x c)) h = some h' ∧ Fr (wB c) h h' ∧ RW' P s sm set need once h' (bs P.1 x c + 10 ^ (P.1 - c)) := by
  have p1 := as.1
  have hbl := bs_lt (n := P.1) x9 c (by omega)
  have hten := ten6 p1
  have hL : 0 < 10 ^ (P.1 - c) := Nat.pow_pos (by omega)
  have hin := nbt_le set P.1 (P.1 - c)
  have hsmc := sm6_le (set := set) x9 c
  have hsum : sm6 set x c + 9 * nbt set P.1 (P.1 - c) ≤ 54 := by omega
  -- what a number of the block slips together
  have S : ∀ i, i < 10 ^ (P.1 - c) → sm6 set (dg P.1 (bs P.1 x c + i)) P.1 = sm6 set x c + tl set P.1 (P.1 - c) i := by
    intro i hi
    rw [sm6_tl (P.1 - c) (by omega), show P.1 - (P.1 - c) = c by omega, sm6_congr (bs_dg x9 c i (by omega) hi)]
    obtain ⟨a, ha⟩ := bs_dvd (n := P.1) (x := x) c (by omega)
    rw [ha, Nat.mul_comm, tl_mul _ _ (Nat.le_refl _)]
  -- the cells behind, all 0
  have zeros : ∀ (e o f : Nat) (y : MH) (a4 a5 : Int32) (res : Option MH → Prop), o + e = P.1 → e < f → c ≤ o → Fr (fun a b => a == 40 && c ≤ b) h y → (∀ i, c ≤ i → i < o → gI y 40 i = 0) → (∀ z f', Fr (fun a b => a == 40 && c ≤ b) h z → (∀ i, c ≤ i → i < P.1 → gI z 40 i = 0) → res (F_Walk_takeAnyFrom_25 N (L_Walk_takeAnyFrom N f') (nI c) (nI (sm6 set x c)) a4 a5 (nI P.1) z)) → res (L_Walk_takeAnyFrom N f (nI c) (nI (sm6 set x c)) a4 a5 (nI o) y) := by
    intro e
    induction e with
    | zero =>
      intro o f y a4 a5 res he hf ho fr z cont
      obtain ⟨f, rfl⟩ : ∃ z, f = z + 1 := ⟨f - 1, by omega⟩
      rw [show o = P.1 by omega] at z ⊢
      exact cont y f fr z
    | succ e ih =>
      intro o f y a4 a5 res he hf ho fr z cont
      obtain ⟨f, rfl⟩ : ∃ z, f = z + 1 := ⟨f - 1, by omega⟩
      show res (F_Walk_takeAnyFrom_25 N (L_Walk_takeAnyFrom N f) (nI c) (nI (sm6 set x c)) a4 a5 (nI o) y)
      unfold F_Walk_takeAnyFrom_25
      have g33 : gI y 33 0 = nI P.1 := by rw [fr.i 33 0 rfl]; exact as.2.2.1
      rw [g33, if_neg (by rw [nN_le (by omega) (by omega)]; omega), if_pos (by rw [inB_nI (by omega)]; omega), iN_nI (by omega), show nI o + 1 = nI (o + 1) from nN_add o 1]
      refine ih (o + 1) f _ a4 a5 res (by omega) (by omega) (by omega) (fr.sI 40 o _ (by simp; omega)) (fun i i1 i2 => ?_) cont
      rw [gI_sI]
      by_cases q : i = o
      · rw [if_pos ⟨rfl, q⟩]
      · rw [if_neg (by omega)]; exact z i i1 (by omega)
  show ∃ h', F_Walk_takeAnyFrom_0 N (L_Walk_takeAnyFrom N N) (nI c) (nI (sm6 set x c)) h = some h' ∧ _
  unfold F_Walk_takeAnyFrom_0
  rw [h1, eBitC p1 hset hc, bnd_some]
  dsimp only
  rw [as.2.2.1, nN_sub (by omega), nN_sub hin]
  refine zeros (P.1 - c) c (N + 1) h (nI (nbt set P.1 (P.1 - c))) (nI (P.1 - c - nbt set P.1 (P.1 - c))) (fun o => ∃ h', o = some h' ∧ Fr (wB c) h h' ∧ RW' P s sm set need once h' (bs P.1 x c + 10 ^ (P.1 - c))) (by omega) (by omega) (Nat.le_refl _) Fr.rfl (fun i i1 i2 => by omega) (fun z f' fz zz => ?_)
  unfold F_Walk_takeAnyFrom_25
  have g33 : gI z 33 0 = nI P.1 := by rw [fz.i 33 0 rfl]; exact as.2.2.1
  rw [g33, if_pos (by rw [nN_le (by omega) (by omega)]; omega)]
  obtain ⟨y2, b1, b2, b3, b4⟩ := eNoteFirst (N := N) z
  rw [b1, bnd_some, L9, nN_mul, nN_add]
  obtain ⟨y3, d1, d2, d3, d4⟩ := eNoteEnds (N := N) (nI (sm6 set x c)) (nI (sm6 set x c + 9 * nbt set P.1 (P.1 - c))) y2
  rw [d1, bnd_some]
  have frA : Fr (wB c) h y3 := ((fz.mono (fun a b q => by unfold wB at q; simp at q ⊢; omega)).trans (b2.mono (fun a b q => by unfold wB at q; simp at q ⊢; omega))).trans (d2.mono (fun a b q => by unfold wB at q; simp at q ⊢; omega))
  have w46 : ∀ y, Fr (wB c) h y → ∀ j t, j ≤ 6 → t ≤ 54 → gI y 46 (55 * j + t) = nI (rch j t) := fun y fy j t hj ht => by rw [fy.i 46 _ (by simp [wB])]; exact hW j t hj ht
  have g33' : gI y3 33 0 = nI P.1 := by rw [frA.i 33 0 (by simp [wB])]; exact as.2.2.1
  have k4 : gI y2 42 4 = gI h 42 4 := by rw [b2.i 42 4 rfl, fz.i 42 4 rfl]
  have k4' : gI z 42 4 = gI h 42 4 := fz.i 42 4 rfl
  have k5 : gI y3 42 5 = gI h 42 5 := by rw [d2.i 42 5 rfl, b2.i 42 5 rfl, fz.i 42 5 rfl]
  have k43 : gI y3 42 4 = gI h 42 4 := by rw [d2.i 42 4 rfl, k4]
  have k2 : gI y3 42 2 = nI need := by rw [d2.i 42 2 rfl, b2.i 42 2 rfl, fz.i 42 2 rfl, h2]
  rw [g33', nN_sub (by omega), eWays (w46 y3 frA) (j := P.1 - c) (by omega) (t := 0) (by omega) (by decide), bnd_some]
  dsimp only
  rw [k43, rch0]
  have fr4 : Fr (wB c) h (sI y3 42 4 (gI h 42 4 + nI (10 ^ (P.1 - c)))) := frA.sI 42 4 _ (by simp [wB])
  have e2 : gI (sI y3 42 4 (gI h 42 4 + nI (10 ^ (P.1 - c)))) 42 2 = nI need := k2
  have e5 : gI (sI y3 42 4 (gI h 42 4 + nI (10 ^ (P.1 - c)))) 42 5 = gI h 42 5 := k5
  have nd : (nI need - nI (sm6 set x c)).toInt = (need : Int) - sm6 set x c := by rw [i_sub, nN_toInt (by omega), nN_toInt (by omega)] <;> rw [nN_toInt (by omega), nN_toInt (by omega)] <;> omega
  rw [e2, eWays (w46 _ fr4) (j := nbt set P.1 (P.1 - c)) (by omega) (t := need - sm6 set x c) (by omega) (by rw [nd]; omega), bnd_some]
  dsimp only
  rw [eWays (w46 _ fr4) (j := P.1 - c - nbt set P.1 (P.1 - c)) (by omega) (t := 0) (by omega) (by decide), bnd_some]
  dsimp only
  rw [rch0, nN_mul, e5]
  refine ⟨_, rfl, fr4.sI 42 5 _ (by simp [wB]), ?_⟩
  have fy : Fr (fun a b => a == 42 && (b == 4 || b == 5)) y3 (sI (sI y3 42 4 (gI h 42 4 + nI (10 ^ (P.1 - c)))) 42 5 (gI h 42 5 + nI (rch (nbt set P.1 (P.1 - c)) (need - sm6 set x c) * 10 ^ (P.1 - c - nbt set P.1 (P.1 - c))))) := (Fr.rfl.sI 42 4 _ rfl).sI 42 5 _ rfl
  have B2 : bs P.1 x c + 10 ^ (P.1 - c) - bs P.1 x c = 10 ^ (P.1 - c) := by omega
  refine RW_take (B := bs P.1 x c) (B' := bs P.1 x c + 10 ^ (P.1 - c)) (M := 10 ^ (P.1 - c)) (Q := rch (nbt set P.1 (P.1 - c)) (need - sm6 set x c) * 10 ^ (P.1 - c - nbt set P.1 (P.1 - c))) (a := sm6 set x c) (b := sm6 set x c + 9 * nbt set P.1 (P.1 - c)) (k1 := bs P.1 x c) p1 r ho (by omega) (by omega) (Nat.le_refl _) (by omega) (hv 0 hL) (fun k z1 z2 => by omega) ?_ (fun _ => ?_) (by omega) (by omega) (fun _ => ⟨⟨bs P.1 x c, Nat.le_refl _, by omega, hv 0 hL, ?_⟩, fun k z1 z2 zv => ?_⟩) (fun _ => ⟨⟨bs P.1 x c + (10 ^ (P.1 - c) - 1), by omega, by omega, hv _ (by omega), ?_⟩, fun k z1 z2 zv => ?_⟩) rfl (fun _ => rfl) (fun zz4 i hi => ?_) (fun zz4 i => ?_) (fun zz4 => ?_) (fun zz4 => ?_)
  · rw [B2, cn_congr (g := fun i => 0 ≤ i ∧ i < 10 ^ (P.1 - c)) (fun i hi => ⟨fun _ => ⟨by omega, hi⟩, fun _ => hv i hi⟩), cnI]; omega
  · rw [B2, ← cn_tl (set := set) (n := P.1) (P.1 - c) (need - sm6 set x c)]
    refine cn_congr (fun i hi => ?_)
    rw [S i hi]
    exact ⟨fun q => by omega, fun q => ⟨hv i hi, by omega⟩⟩
  · have := S 0 hL
    rw [Nat.add_zero, tl_zero] at this
    omega
  · obtain ⟨i, rfl⟩ : ∃ i, k = bs P.1 x c + i := ⟨k - bs P.1 x c, by omega⟩
    rw [S i (by omega)]; omega
  · rw [S _ (by omega), tl_max _ (Nat.le_refl _)]
  · obtain ⟨i, rfl⟩ : ∃ i, k = bs P.1 x c + i := ⟨k - bs P.1 x c, by omega⟩
    have := tl_le (set := set) (n := P.1) (P.1 - c) i
    rw [S i (by omega)]; omega
  · rw [fy.i 43 _ rfl, d2.i 43 _ rfl, b3 (by rw [k4']; exact zz4) i (by omega)]
    by_cases w : i < c
    · rw [fz.i 40 _ (by simp; omega), px.1 i w]
      have := bs_dg (n := P.1) x9 c 0 (by omega) hL i w
      rw [Nat.add_zero] at this
      rw [this]
    · rw [zz i (by omega) hi]
      have : dg P.1 (bs P.1 x c) i = 0 := by
        unfold dg
        obtain ⟨a, ha⟩ := bs_dvd (n := P.1) (x := x) c (by omega)
        have := dig_mul (a := a) (j := P.1 - c) (e := P.1 - 1 - i) (i := 0) (by omega)
        rw [Nat.add_zero, Nat.zero_div] at this
        rw [ha, Nat.mul_comm]
        omega
      rw [this]; rfl
  · rw [fy.i 43 _ rfl, d2.i 43 _ rfl, b4 (by rw [k4']; exact zz4), fz.i 43 _ rfl]
  · obtain ⟨w1, w2⟩ := d3 (by rw [k4]; exact zz4)
    rw [fy.i 42 6 rfl, fy.i 42 7 rfl, w1, w2]
    exact ⟨rfl, rfl⟩
  · obtain ⟨w1, w2⟩ := d4 (by rw [k4]; exact zz4)
    have m6 : gI y2 42 6 = gI h 42 6 := by rw [b2.i 42 6 rfl, fz.i 42 6 rfl]
    have m7 : gI y2 42 7 = gI h 42 7 := by rw [b2.i 42 7 rfl, fz.i 42 7 rfl]
    rw [nN_toInt (by omega), m6] at w1
    rw [nN_toInt (by omega), m7] at w2
    rw [fy.i 42 6 rfl, fy.i 42 7 rfl, w1, w2]
    exact ⟨rfl, rfl⟩
