/-! SLIPS: the walk -/
theorem IvWt_fr {WS : Nat → Nat → Bool} {hS hS' : MH} (hW : IvWt hS) (fS : Fr WS hS hS') (kS : ∀ k, WS 46 k = false) : IvWt hS' := by
  unfold IvWt at hW ⊢
  have d : ∀ k, gI hS' 46 k = gI hS 46 k := fun k => fS.i 46 k (kS k)
  simp only [d]
  exact hW
def Mk (P : PB) (sm marks c : Nat) (x : Nat → Nat) : Prop := ∀ y : Nat → Nat, (∀ i, y i < 10) → (∀ i, i < c → y i = x i) → ((∀ k, k < P.2.1 → sm.testBit k = true → okM P k y) ↔ (∀ k, k < P.2.1 → marks.testBit k = true → okM P k y))
def PN (P : PB) (s c : Nat) (x : Nat → Nat) : Prop := ∀ a b, b < a → a < c → pN P a b = true → x a ≤ x b + s ∧ x b ≤ x a + s
theorem Mk_open {P : PB} {sm marks c v : Nat} {x : Nat → Nat} (hc : c ≤ P.1) (p2 : P.2.1 ≤ 8) (mk : Mk P sm marks c x) (op : OP P c x marks P.2.1 v) : Mk P sm v c x := by
  intro y y9 hy
  rw [mk y y9 hy]
  constructor
  · intro q k hk hb
    have := (op.2 k (by omega)).mp hb
    exact q k hk this.2.1
  · intro q k hk hb
    by_cases z : v.testBit k = true
    · exact q k hk z
    · have : shut P c x k := by
        apply Classical.byContradiction
        intro w
        exact z ((op.2 k (by omega)).mpr ⟨hk, hb, w⟩)
      exact shut_ok hc y9 ((shut_congr (fun i hi => (hy i hi).symm)).mp this)
theorem Mk_up {P : PB} {sm v c d : Nat} {x : Nat → Nat} (mk : Mk P sm v c x) : Mk P sm v (c + 1) (fun i => if i = c then d else x i) := by
  intro y y9 hy
  refine mk y y9 (fun i hi => ?_)
  rw [hy i (by omega)]
  show (if i = c then d else x i) = x i
  rw [if_neg (by omega)]
theorem dg_up {n c d r : Nat} {x : Nat → Nat} (x9 : ∀ i, x i < 10) (hd : d < 10) (hc : c < n) (hr : r < 10 ^ (n - 1 - c)) : (∀ i, i < c → dg n (bs n x c + d * 10 ^ (n - 1 - c) + r) i = x i) ∧ dg n (bs n x c + d * 10 ^ (n - 1 - c) + r) c = d := by
  have key := bs_dg (n := n) (x := fun i => if i = c then d else x i) (fun i => by by_cases q : i = c; simp only [q, if_true]; exact hd; simp only [q, if_false]; exact x9 i) (c + 1) r (by omega) (by rw [show n - (c + 1) = n - 1 - c by omega]; exact hr)
  have e : bs n (fun i => if i = c then d else x i) (c + 1) = bs n x c + d * 10 ^ (n - 1 - c) := by
    show bs n _ c + _ = _
    simp only [if_true]
    rw [bs_congr c (fun i hi => by show (if i = c then d else x i) = x i; rw [if_neg (by omega)])]
  rw [e] at key
  refine ⟨fun i hi => ?_, ?_⟩
  · have := key i (by omega)
    rw [if_neg (by omega)] at this
    exact this
  · have := key c (by omega)
    rw [if_pos rfl] at this
    exact this
/-- a number that the bounds leave out begins no slips -/
theorem vld_in {P : PB} {s sm v c d r : Nat} {x : Nat → Nat} (x9 : ∀ i, x i < 10) (hd : d < 10) (hc : c < P.1) (p2 : P.2.1 ≤ 8) (mk : Mk P sm v c x) (hr : r < 10 ^ (P.1 - 1 - c)) (h : vld P s sm (bs P.1 x c + d * 10 ^ (P.1 - 1 - c) + r)) : nearOK P s c x d ∧ ∀ k, k < P.2.1 → v.testBit k = true → markOK P c x k d := by
  obtain ⟨q1, q2⟩ := dg_up x9 hd hc hr
  have y9 : ∀ i, dg P.1 (bs P.1 x c + d * 10 ^ (P.1 - 1 - c) + r) i < 10 := fun i => dg_lt _ _ _
  obtain ⟨h1, h2⟩ := h
  generalize dg P.1 (bs P.1 x c + d * 10 ^ (P.1 - 1 - c) + r) = y at *
  refine ⟨fun o ho hn => ?_, fun k hk hb => ?_⟩
  · have := h1 c o ho hc hn
    rw [q2, q1 o ho] at this
    omega
  · obtain ⟨m1, m2⟩ := (mk y y9 q1).mp h2 k hk hb
    have rg := ps_rng (U := pU P) (k := k) y9 (c + 1) (P.1 - (c + 1))
    rw [show c + 1 + (P.1 - (c + 1)) = P.1 by omega, show ps (pU P) k y (c + 1) = ps (pU P) k y c + y c * pU P c k from rfl, q2, ps_congr q1] at rg
    unfold markOK
    rw [Int.mul_comm (pU P c k)]
    omega
theorem vld_last {P : PB} {s sm v marks c d : Nat} {x : Nat → Nat} (x9 : ∀ i, x i < 10) (hd : d < 10) (hc : c + 1 = P.1) (mk : Mk P sm v c x) (pn : PN P s c x) (h1 : nearOK P s c x d) (h2 : ∀ k, k < P.2.1 → v.testBit k = true → markOK P c x k d) : vld P s sm (bs P.1 x c + d) := by
  have e : P.1 - 1 - c = 0 := by omega
  obtain ⟨q1, q2⟩ := dg_up (n := P.1) (c := c) (r := 0) x9 hd (by omega) (by rw [e]; decide)
  rw [e, Nat.pow_zero, Nat.mul_one, Nat.add_zero] at q1 q2
  have y9 : ∀ i, dg P.1 (bs P.1 x c + d) i < 10 := fun i => dg_lt _ _ _
  unfold vld
  generalize dg P.1 (bs P.1 x c + d) = y at *
  refine ⟨fun a b hb ha hn => ?_, (mk y y9 q1).mpr (fun k hk hb => ?_)⟩
  · by_cases z : a = c
    · subst z
      rw [q2, q1 b hb]
      have := h1 b hb hn
      omega
    · rw [q1 a (by omega), q1 b (by omega)]
      exact pn a b hb (by omega) hn
  · obtain ⟨m1, m2⟩ := h2 k hk hb
    have ep : ps (pU P) k y P.1 = ps (pU P) k x c + d * pU P c k := by
      rw [← hc]
      show ps (pU P) k y c + y c * pU P c k = _
      rw [ps_congr q1, q2]
    rw [hc, Int.sub_self, Int.sub_zero, Int.mul_comm] at m1 m2
    unfold okM
    rw [ep]
    omega
theorem vld_any {P : PB} {s sm v c d : Nat} {x : Nat → Nat} (x9 : ∀ i, x i < 10) (hc : c ≤ P.1) (p1 : P.1 ≤ 6) (p2 : P.2.1 ≤ 8) (mk : Mk P sm v c x) (pn : PN P s c x) (v0 : v = 0) (lo : loose P s c) (hd : d < 10 ^ (P.1 - c)) : vld P s sm (bs P.1 x c + d) := by
  have q1 := bs_dg (n := P.1) x9 c d hc hd
  have y9 : ∀ i, dg P.1 (bs P.1 x c + d) i < 10 := fun i => dg_lt _ _ _
  unfold vld
  generalize dg P.1 (bs P.1 x c + d) = y at *
  refine ⟨fun a b hb ha hn => ?_, (mk y y9 q1).mpr (fun k hk hb => ?_)⟩
  · by_cases z : a < c
    · rw [q1 a z, q1 b (by omega)]
      exact pn a b hb z hn
    · rcases lo with l | l
      · have := y9 a
        have := y9 b
        omega
      · rw [l a (by omega) ha b (by omega)] at hn; cases hn
  · rw [v0, Nat.zero_testBit] at hb; cases hb
theorem eVisit {N : Nat} (hN : 100 < N) {P : PB} {mv s sm set need : Nat} {once : Bool} (hs : s ≤ 9) (hset : set < 2 ^ P.1) (hneed : need ≤ 54) : ∀ (D c marks : Nat) (x : Nat → Nat) (h : MH), P.1 < c + D → c < P.1 → AS P mv h → PX P h c x → (∀ i, x i < 10) → gI h 42 0 = nI s → gI h 42 1 = nI set → gI h 42 2 = nI need → gI h 42 3 = (if once = true then 1 else 0) → IvWt h → marks < 256 → (∀ k, marks.testBit k = true → mv.testBit k = true) → Mk P sm marks c x → PN P s c x → RW' P s sm set need once h (bs P.1 x c) → (once = true → gI h 42 4 = 0) →
    ∃ h', f_Walk_visit N D (nI c) (nI marks) (nI (sm6 set x c)) h = some h' ∧ Fr (wB c) h h' ∧ RW' P s sm set need once h' (bs P.1 x c + 10 ^ (P.1 - c)) := by
  intro D
  induction D with
  | zero => intro c marks x h hD hc; omega
  | succ D ih =>
    intro c marks x h hD hc as px x9 w0 w1 w2 w3 hW hm hsub mk pn r ho
    obtain ⟨p1, p2, p3, p4, -⟩ := id as
    have c6 : c < 6 := by omega
    have hpow : 10 ^ (P.1 - c) = 10 * 10 ^ (P.1 - 1 - c) := by rw [show P.1 - c = (P.1 - 1 - c) + 1 by omega, Nat.pow_succ, Nat.mul_comm]
    have hL : 0 < 10 ^ (P.1 - 1 - c) := Nat.pow_pos (by omega)
    have s64 : set < 64 := Nat.lt_of_lt_of_le hset (Nat.pow_le_pow_right (n := 2) (j := 6) (by omega) p1)
    show ∃ h', F_Walk_visit_0 N (f_Walk_visit N D) (L_Walk_visit N (f_Walk_visit N D) N) (nI c) (nI marks) (nI (sm6 set x c)) h = some h' ∧ _
    unfold F_Walk_visit_0
    obtain ⟨v, a1, a2⟩ := eOpen (N := N) hN (by omega) as px x9 hm hsub
    rw [p3, if_neg (by rw [nN_le (by omega) (by omega)]; omega), if_pos (by rw [L6, nN_lt (by omega) (by omega)]; omega), a1, bnd_some]
    dsimp only
    have v256 := a2.1
    have mkv := Mk_open (by omega) p2 mk a2
    have vsub : ∀ k, v.testBit k = true → k < P.2.1 ∧ mv.testBit k = true := fun k hk => by
      by_cases k8 : k < 8
      · have := (a2.2 k k8).mp hk
        exact ⟨this.1, hsub k this.2.1⟩
      · rw [Nat.testBit_lt_two_pow (Nat.lt_of_lt_of_le v256 (Nat.pow_le_pow_right (n := 2) (i := 8) (by omega) (by omega)))] at hk; cases hk
    -- the cell's own numbers, one by one
    have cellwise : ∃ h', F_Walk_visit_46 N (f_Walk_visit N D) (L_Walk_visit N (f_Walk_visit N D) N) (nI c) (nI (sm6 set x c)) (nI v) h = some h' ∧ Fr (wB c) h h' ∧ RW' P s sm set need once h' (bs P.1 x c + 10 ^ (P.1 - c)) := by
      unfold F_Walk_visit_46
      obtain ⟨y, b1, b2, b3, b4, b5⟩ := eNarrow (N := N) hN hs hc as px x9 w0 v256 vsub
      rw [b1, bnd_some]
      have ib : inB (nI c) 6 = true := by rw [inB_nI (by omega)]; exact c6
      simp only [ib, if_true]
      rw [iN_nI (by omega)]
      have fy : Fr (wB c) h y := b2.mono (fun a b q => by unfold wB at q; simp at q ⊢; omega)
      have asy := AS_fr as (fy.mono (fun _ _ => wB_W))
      have ry : RW' P s sm set need once y (bs P.1 x c) := by
        obtain ⟨fp, fu⟩ := r
        refine ⟨?_, fun o => ?_⟩
        · unfold FPw
          rw [b2.i 42 4 rfl]
          rcases fp with q | ⟨q1, k0, q2, q3, q4⟩
          · exact .inl q
          · exact .inr ⟨q1, k0, q2, q3, fun i hi => by rw [b2.i 43 i rfl]; exact q4 i hi⟩
        · unfold FUw
          rw [b2.i 42 4 rfl, b2.i 42 5 rfl, b2.i 42 6 rfl, b2.i 42 7 rfl]
          exact fu o
      have y4 : once = true → gI y 42 4 = 0 := fun o => by rw [b2.i 42 4 rfl]; exact ho o
      -- numbers left out
      have out : ∀ d : Nat, d < 10 → ¬ ((gI y 44 c).toInt ≤ d ∧ (d : Int) ≤ (gI y 45 c).toInt) → ∀ r', r' < 10 ^ (P.1 - 1 - c) → ¬ vld P s sm (bs P.1 x c + d * 10 ^ (P.1 - 1 - c) + r') := fun d hd hn r' hr' hv => by
        obtain ⟨z1, z2⟩ := vld_in x9 hd hc p2 mkv hr' hv
        exact hn ((b5 d).mpr ⟨by omega, z1, z2⟩)
      have cut : ∀ k lo hi, bs P.1 x c + lo * 10 ^ (P.1 - 1 - c) ≤ k → k < bs P.1 x c + hi * 10 ^ (P.1 - 1 - c) → ∃ d r', lo ≤ d ∧ d < hi ∧ r' < 10 ^ (P.1 - 1 - c) ∧ k = bs P.1 x c + d * 10 ^ (P.1 - 1 - c) + r' := by
        intro k lo hi k1 k2
        refine ⟨(k - bs P.1 x c) / 10 ^ (P.1 - 1 - c), (k - bs P.1 x c) % 10 ^ (P.1 - 1 - c), (Nat.le_div_iff_mul_le hL).mpr (by omega), (Nat.div_lt_iff_lt_mul hL).mpr (by omega), Nat.mod_lt _ hL, ?_⟩
        have := Nat.div_add_mod (k - bs P.1 x c) (10 ^ (P.1 - 1 - c))
        rw [Nat.mul_comm] at this
        omega
      by_cases g : gI y 44 c ≤ gI y 45 c
      case neg =>
        rw [if_neg g]
        rw [Int32.le_iff_toInt_le] at g
        refine ⟨y, rfl, fy, RW_skip ry (by omega) (fun k k1 k2 => ?_)⟩
        obtain ⟨d, r', d1, d2, d3, rfl⟩ := cut k 0 10 (by omega) (by omega)
        exact out d d2 (by omega) r' d3
      rw [if_pos g]
      rw [Int32.le_iff_toInt_le] at g
      obtain ⟨F, hF⟩ : ∃ F : Nat, (gI y 44 c).toInt = F := ⟨(gI y 44 c).toInt.toNat, by omega⟩
      obtain ⟨T, hT⟩ : ∃ T : Nat, (gI y 45 c).toInt = T := ⟨(gI y 45 c).toInt.toNat, by omega⟩
      rw [hF, hT] at b5 out
      rw [hF, hT] at g
      have hFT : F ≤ T := by omega
      have T9 : T ≤ 9 := ((b5 T).mp ⟨by omega, by omega⟩).1
      have eF : gI y 44 c = nI F := by rw [← Int32.toInt_inj, hF, nN_toInt (by omega)]
      have eT : gI y 45 c = nI T := by rw [← Int32.toInt_inj, hT, nN_toInt (by omega)]
      have g33 : gI y 33 0 = nI P.1 := asy.2.2.1
      have pxy : PX P y c x := PX_fr px p2 fy
      rw [g33, show nI P.1 - 1 = nI (P.1 - 1) by rw [L1, nN_sub (by omega)]]
      have el : (nI c = nI (P.1 - 1)) = (c = P.1 - 1) := nN_inj (by omega) (by omega)
      simp only [el]
      by_cases last : c = P.1 - 1
      · rw [if_pos last]
        have L1' : 10 ^ (P.1 - 1 - c) = 1 := by rw [show P.1 - 1 - c = 0 by omega]
        have hv : ∀ d, d < 10 → (vld P s sm (bs P.1 x c + d) ↔ F ≤ d ∧ d ≤ T) := fun d hd => by
          constructor
          · intro z
            have := vld_in (r := 0) x9 hd hc p2 mkv hL (by rw [L1', Nat.mul_one, Nat.add_zero]; exact z)
            have := (b5 d).mpr ⟨by omega, this.1, this.2⟩
            omega
          · intro z
            obtain ⟨-, z2, z3⟩ := (b5 d).mp ⟨by omega, by omega⟩
            exact vld_last (marks := marks) x9 hd (by omega) mkv pn z2 z3
        have key := eTakeLast (N := N) hN (P := P) (mv := mv) (s := s) (sm := sm) (set := set) (need := need) (once := once) s64 hneed (by omega) (h := y) (x := x) asy (by rw [← last]; exact pxy) x9 (by rw [b2.i 42 1 rfl]; exact w1) (by rw [b2.i 42 2 rfl]; exact w2) (F := F) (T := T) (by rw [← last]; exact eF) (by rw [← last]; exact eT) hFT T9 (by rw [← last]; exact hv) (by rw [← last]; exact ry) y4
        rw [← last] at key
        obtain ⟨h', k1, k2, k3⟩ := key
        rw [k1, bnd_some]
        refine ⟨h', rfl, fy.trans k2, ?_⟩
        rw [hpow, L1', Nat.mul_one]
        exact k3
      · rw [if_neg last, eF, eT]
        -- the loop
        have loop : ∀ (e d f : Nat) (z : MH), d + e = T + 1 → F ≤ d → e < f → Fr (wB c) h z → RW' P s sm set need once z (bs P.1 x c + d * 10 ^ (P.1 - 1 - c)) → ∃ h', L_Walk_visit N (f_Walk_visit N D) f (nI c) (nI (sm6 set x c)) (nI v) (nI T) (nI d) z = some h' ∧ Fr (wB c) h h' ∧ RW' P s sm set need once h' (bs P.1 x c + (T + 1) * 10 ^ (P.1 - 1 - c)) := by
          intro e
          induction e with
          | zero =>
            intro d f z he hd hf fz rz
            obtain ⟨f, rfl⟩ : ∃ q, f = q + 1 := ⟨f - 1, by omega⟩
            refine ⟨z, ?_, fz, by rw [show T + 1 = d by omega]; exact rz⟩
            show F_Walk_visit_105 N (f_Walk_visit N D) (L_Walk_visit N (f_Walk_visit N D) f) (nI c) (nI (sm6 set x c)) (nI v) (nI T) (nI d) z = _
            unfold F_Walk_visit_105
            rw [if_pos (by rw [nN_lt (by omega) (by omega)]; omega)]
          | succ e ihe =>
            intro d f z he hd hf fz rz
            obtain ⟨f, rfl⟩ : ∃ q, f = q + 1 := ⟨f - 1, by omega⟩
            show ∃ h', F_Walk_visit_105 N (f_Walk_visit N D) (L_Walk_visit N (f_Walk_visit N D) f) (nI c) (nI (sm6 set x c)) (nI v) (nI T) (nI d) z = some h' ∧ _
            unfold F_Walk_visit_105
            rw [if_neg (by rw [nN_lt (by omega) (by omega)]; omega), fz.i 42 3 rfl, w3]
            have asz := AS_fr as (fz.mono (fun _ _ => wB_W))
            have pxz : PX P z c x := PX_fr px p2 fz
            obtain ⟨-, z2, z3⟩ := (b5 d).mp ⟨by omega, by omega⟩
            have go : (once = true → gI z 42 4 = 0) → ∃ h', F_Walk_visit_126 N (f_Walk_visit N D) (L_Walk_visit N (f_Walk_visit N D) f) (nI c) (nI (sm6 set x c)) (nI v) (nI T) (nI d) z = some h' ∧ Fr (wB c) h h' ∧ RW' P s sm set need once h' (bs P.1 x c + (T + 1) * 10 ^ (P.1 - 1 - c)) := by
              intro oz
              unfold F_Walk_visit_126
              obtain ⟨u, c1, c2, c3⟩ := ePut (N := N) hN c6 (d := d) (by omega) asz pxz x9
              rw [c1, bnd_some]
              have fu : Fr (wB c) h u := fz.trans (c2.mono (fun a b q => by unfold wB at q; simp at q ⊢; omega))
              have sbit := set_d ⟨set, s64⟩ ⟨c, c6⟩
              dsimp only at sbit
              have isn : nI d * (if set.testBit c = true then (1 : Int32) else 0) = nI (if set.testBit c = true then d else 0) := by
                split
                · rw [L1, nN_mul, Nat.mul_one]
                · rw [L0, nN_mul, Nat.mul_zero]
              rw [fu.i 42 1 (by simp [wB]), w1, sbit, isn, nN_add, show nI c + 1 = nI (c + 1) from nN_add c 1, show nI d + 1 = nI (d + 1) from nN_add d 1]
              have x9' : ∀ i, (if i = c then d else x i) < 10 := fun i => by split; omega; exact x9 i
              have es : sm6 set (fun i => if i = c then d else x i) (c + 1) = sm6 set x c + (if set.testBit c = true then d else 0) := by
                show sm6 set _ c + _ = _
                simp only [if_true]
                rw [sm6_congr (fun i hi => by show (if i = c then d else x i) = x i; rw [if_neg (by omega)])]
              have eb : bs P.1 (fun i => if i = c then d else x i) (c + 1) = bs P.1 x c + d * 10 ^ (P.1 - 1 - c) := by
                show bs P.1 _ c + _ = _
                simp only [if_true]
                rw [bs_congr c (fun i hi => by show (if i = c then d else x i) = x i; rw [if_neg (by omega)])]
              have k4 : gI u 42 4 = gI z 42 4 := c2.i 42 4 rfl
              have ru : RW' P s sm set need once u (bs P.1 (fun i => if i = c then d else x i) (c + 1)) := by
                rw [eb]
                obtain ⟨fp, fuu⟩ := rz
                refine ⟨?_, fun o => ?_⟩
                · unfold FPw
                  rw [k4]
                  rcases fp with q | ⟨q1, k0, q2, q3, q4⟩
                  · exact .inl q
                  · exact .inr ⟨q1, k0, q2, q3, fun i hi => by rw [c2.i 43 i rfl]; exact q4 i hi⟩
                · unfold FUw
                  rw [k4, c2.i 42 5 rfl, c2.i 42 6 rfl, c2.i 42 7 rfl]
                  exact fuu o
              have pn' : PN P s (c + 1) (fun i => if i = c then d else x i) := by
                intro a b hb ha hn
                show (if a = c then d else x a) ≤ (if b = c then d else x b) + s ∧ (if b = c then d else x b) ≤ (if a = c then d else x a) + s
                by_cases q : a = c
                · subst q
                  rw [if_pos rfl, if_neg (by omega)]
                  have := z2 b hb hn
                  omega
                · rw [if_neg q, if_neg (by omega)]
                  exact pn a b hb (by omega) hn
              have := ih (c + 1) v (fun i => if i = c then d else x i) u (by omega) (by omega) (AS_fr as (fu.mono (fun _ _ => wB_W))) c3 x9' (by rw [fu.i 42 0 (by simp [wB])]; exact w0) (by rw [fu.i 42 1 (by simp [wB])]; exact w1) (by rw [fu.i 42 2 (by simp [wB])]; exact w2) (by rw [fu.i 42 3 (by simp [wB])]; exact w3) (IvWt_fr hW fu (fun k => by simp [wB])) v256 (fun k hk => (vsub k hk).2) (Mk_up mkv) pn' ru (fun o => by rw [k4]; exact oz o)
              rw [es, eb] at this
              obtain ⟨u', e1, e2, e3⟩ := this
              rw [e1, bnd_some]
              refine ihe (d + 1) f u' (by omega) (by omega) (by omega) (fu.trans (e2.mono (fun a b q => wB_up q))) ?_
              rw [show P.1 - (c + 1) = P.1 - 1 - c by omega] at e3
              rw [Nat.succ_mul, ← Nat.add_assoc]
              exact e3
            cases once with
            | false =>
              rw [if_pos (by simp)]
              exact go (fun o => by cases o)
            | true =>
              rw [if_neg (by simp)]
              by_cases found : 0 < gI z 42 4
              · rw [if_pos found]
                refine ⟨z, rfl, fz, ?_, fun o => by cases o⟩
                rcases rz.1 with ⟨q, -⟩ | q
                · rw [q] at found; exact absurd found (by decide)
                · exact .inr q
              · rw [if_neg found]
                refine go (fun _ => ?_)
                rcases rz.1 with ⟨q, -⟩ | ⟨q, -⟩
                · exact q
                · exact absurd q found
        have start : RW' P s sm set need once y (bs P.1 x c + F * 10 ^ (P.1 - 1 - c)) := RW_skip ry (by omega) (fun k k1 k2 => by
          obtain ⟨d, r', d1, d2, d3, rfl⟩ := cut k 0 F (by omega) k2
          exact out d (by omega) (by omega) r' d3)
        obtain ⟨h', l1, l2, l3⟩ := loop (T + 1 - F) F (N + 1) y (by omega) (Nat.le_refl _) (by omega) fy start
        refine ⟨h', l1, l2, RW_skip l3 ?_ (fun k k1 k2 => ?_)⟩
        · rw [hpow]
          have : (T + 1) * 10 ^ (P.1 - 1 - c) ≤ 10 * 10 ^ (P.1 - 1 - c) := Nat.mul_le_mul_right _ (by omega)
          omega
        · rw [hpow] at k2
          obtain ⟨d, r', d1, d2, d3, rfl⟩ := cut k (T + 1) 10 k1 k2
          exact out d d2 (by omega) r' d3
    have ev : (nI v = 0) = (v = 0) := nN_inj (b := 0) (by omega) (by omega)
    simp only [ev]
    by_cases v0 : v = 0
    · rw [if_pos v0]
      obtain ⟨q, l1, l2⟩ := eLoose (N := N) (c := c) hN hs (by omega) as w0
      rw [l1, bnd_some]
      dsimp only
      rcases l2 with ⟨e1, lo⟩ | ⟨e1, -⟩
      · rw [e1, if_neg (by decide)]
        obtain ⟨h', k1, k2, k3⟩ := eTakeAny (N := N) hN (s := s) (sm := sm) (once := once) hc hset hneed as px x9 w1 w2 hW (fun d hd => vld_any x9 (by omega) p1 p2 mkv pn v0 lo hd) r ho
        rw [k1, bnd_some]
        exact ⟨h', rfl, k2, k3⟩
      · rw [e1, if_pos rfl]
        exact cellwise
    · rw [if_neg v0]
      exact cellwise
