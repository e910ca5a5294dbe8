/-! SLIPS: the walk as a whole -/
theorem nJ_32 {k : Nat} (h : k < 2147483648) : (nJ k).toInt32 = nI k := by
  apply Int32.toInt_inj.mp
  rw [nN_toInt h, Int64.toInt_toInt32, nJ_toInt (by omega)]
  show Int.bmod _ _ = _
  rw [Int.bmod_eq_of_le] <;> omega
theorem nI_64 {k : Nat} (h : k < 2147483648) : (nI k).toInt64 = nJ k := by
  apply Int64.toInt_inj.mp
  rw [nJ_toInt (by omega), Int32.toInt_toInt64, nN_toInt h]
theorem nJ_le0 {c : Nat} (h : c < 2000000000) : (nJ c ≤ 0) = (c = 0) := by
  apply propext
  rw [Int64.le_iff_toInt_le, nJ_toInt (by omega)]
  have : (0 : Int64).toInt = 0 := rfl
  rw [this]; omega
theorem nJ_eq0 {c : Nat} (h : c < 2000000000) : (nJ c = 0) = (c = 0) := by
  rw [show (0 : Int64) = nJ 0 from rfl, nJ_inj (by omega) (by omega)]
theorem eWalk {N : Nat} (hN : 100 < N) {P : PB} {mv s sm set need : Nat} {once : Bool} (hs : s ≤ 9) (hset : set < 2 ^ P.1) (hneed : need ≤ 54) (hn : 0 < P.1) {h : MH} (as : AS P mv h) (hW : IvW h) (hsm : sm < 256) (hsub : ∀ k, sm.testBit k = true → mv.testBit k = true) (w0 : gI h 42 0 = nI s) (w1 : gI h 42 1 = nI set) (w2 : gI h 42 2 = nI need) (w3 : gI h 42 3 = (if once = true then 1 else 0)) (w4 : gI h 42 4 = 0) (w5 : gI h 42 5 = 0) :
    ∃ h', f_Walk_visit N 8 0 (nI sm) 0 h = some h' ∧ Fr (wB 0) h h' ∧ RW' P s sm set need once h' (10 ^ P.1) := by
  have p1 := as.1
  have p2 := as.2.1
  have := eVisit (N := N) hN (P := P) (mv := mv) (s := s) (sm := sm) (set := set) (need := need) (once := once) hs hset hneed 8 0 sm (fun _ => 0) h (by omega) hn as ⟨fun i hi => absurd hi (by omega), fun i k hi hk => by
    have : i = 0 := by omega
    subst this
    rw [show 8 * 0 + k = k by omega, hW.2 k (by omega)]
    rfl⟩ (fun _ => by omega) w0 w1 w2 w3 hW.1 hsm hsub (fun y _ _ => Iff.rfl) (fun a b _ ha => absurd ha (by omega)) ⟨.inl ⟨w4, fun k hk => absurd hk (Nat.not_lt_zero _)⟩, fun _ => ⟨w4, w5, fun q => absurd q (Nat.not_lt_zero _)⟩⟩ (fun _ => w4)
  obtain ⟨h', a, b, c⟩ := this
  refine ⟨h', a, b, ?_⟩
  have e : bs P.1 (fun _ => 0) 0 + 10 ^ (P.1 - 0) = 10 ^ P.1 := by show 0 + _ = _; rw [Nat.zero_add, Nat.sub_zero]
  rw [e] at c
  exact c
theorem wB_v {c k : Nat} (h : vS c k = false) : wB 0 c k = false := by
  unfold vS at h; unfold wB; simp at h ⊢; omega
def w42 (c k : Nat) : Bool := c == 42 && k ≤ 5
theorem w42_W {c k : Nat} (h : vS c k = false) : w42 c k = false := by
  unfold vS at h; unfold w42; simp at h ⊢; omega
theorem AS_42 {P : PB} {mv : Nat} {h h' : MH} (p : AS P mv h) (f : Fr w42 h h') : AS P mv h' := by
  obtain ⟨p1, p2, p3, p4, p5, p6, p7, p8⟩ := p
  refine ⟨p1, p2, by rw [f.i 33 0 rfl]; exact p3, by rw [f.i 33 1 rfl]; exact p4, fun c k hc hk => by rw [f.i 34 _ rfl]; exact p5 c k hc hk, fun a ha => by rw [f.i 35 _ rfl]; exact p6 a ha, fun k hk hb => by rw [f.i 36 _ rfl, f.i 37 _ rfl]; exact p7 k hk hb, fun c k hc hk => by rw [f.i 38 _ rfl, f.i 39 _ rfl]; exact p8 c k hc hk⟩
theorem IvW_42 {h h' : MH} (p : IvW h) (f : Fr w42 h h') : IvW h' := IvW_fr p f (fun k => rfl) (fun k _ => rfl)
theorem eAll {N : Nat} (hN : 100 < N) {P : PB} {mv s set need : Nat} (hs : s ≤ 9) (hset : set < 2 ^ P.1) (hneed : need ≤ 54) (hn : 0 < P.1) {h : MH} (as : AS P mv h) (hW : IvW h) (hmv : mv < 256) (h33 : gI h 33 2 = nI mv) :
    ∃ h', f_Walk_all N (nI s) (nI set) (nI need) h = some h' ∧ Fr vS h h' ∧ RW' P s mv set need false h' (10 ^ P.1) := by
  have fr : Fr w42 h (sI (sI (sI (sI (sI (sI h 42 0 (nI s)) 42 1 (nI set)) 42 2 (nI need)) 42 4 0) 42 5 0) 42 3 0) := (((((Fr.rfl.sI 42 0 _ rfl).sI 42 1 _ rfl).sI 42 2 _ rfl).sI 42 4 _ rfl).sI 42 5 _ rfl).sI 42 3 _ rfl
  obtain ⟨h', a, b, c⟩ := eWalk (N := N) hN (once := false) hs hset hneed hn (AS_42 as fr) (IvW_42 hW fr) hmv (fun _ q => q) rfl rfl rfl rfl rfl rfl
  refine ⟨h', ?_, (fr.mono (fun _ _ => w42_W)).trans (b.mono (fun _ _ => wB_v)), c⟩
  unfold f_Walk_all f_Walk_begin
  dsimp only
  rw [bnd_some]
  have e : gI (sI (sI (sI (sI (sI (sI h 42 0 (nI s)) 42 1 (nI set)) 42 2 (nI need)) 42 4 0) 42 5 0) 42 3 0) 33 2 = nI mv := h33
  rw [e, a, bnd_some]
theorem eFinds {N : Nat} (hN : 100 < N) {P : PB} {mv s sm : Nat} (hs : s ≤ 9) (hn : 0 < P.1) {h : MH} (as : AS P mv h) (hW : IvW h) (hsm : sm < 256) (hsub : ∀ k, sm.testBit k = true → mv.testBit k = true) :
    ∃ h', f_Walk_finds N (nI sm) (nI s) h = some (if gI h' 42 4 ≤ 0 then 0 else 1, h') ∧ Fr vS h h' ∧ FPw P s sm h' (10 ^ P.1) ∧ Fr (fun c k => w42 c k || wB 0 c k) h h' := by
  have fr : Fr w42 h (sI (sI (sI (sI (sI (sI h 42 0 (nI s)) 42 1 0) 42 2 0) 42 4 0) 42 5 0) 42 3 1) := (((((Fr.rfl.sI 42 0 _ rfl).sI 42 1 _ rfl).sI 42 2 _ rfl).sI 42 4 _ rfl).sI 42 5 _ rfl).sI 42 3 _ rfl
  obtain ⟨h', a, b, c⟩ := eWalk (N := N) hN (once := true) (set := 0) (need := 0) hs (Nat.pow_pos (by omega)) (by omega) hn (AS_42 as fr) (IvW_42 hW fr) hsm hsub rfl rfl rfl rfl rfl rfl
  refine ⟨h', ?_, (fr.mono (fun _ _ => w42_W)).trans (b.mono (fun _ _ => wB_v)), c.1, (fr.mono (fun c k q => ?_)).trans (b.mono (fun c k q => ?_))⟩
  · unfold f_Walk_finds f_Walk_begin
    dsimp only
    rw [bnd_some, a, bnd_some]
    by_cases z : gI h' 42 4 ≤ 0
    · rw [if_pos z, if_pos z]
    · rw [if_neg z, if_neg z]
  · simp at q; exact q.1
  · simp at q; exact q.2
theorem Inv_s {hS hM : MH} (h : Inv2 hS hM) : ∃ s, s ≤ 9 ∧ gI hS 1 15 = nI s ∧ gI hM 68 66 = nI s := by
  obtain ⟨e, s, hs, q⟩ := h.1.2.2.2.2.2.1
  exact ⟨s, hs, by rw [e, q], q⟩
theorem Inv_W {hS hM : MH} (h : Inv2 hS hM) : IvW hS := h.2.2.2.2.2
theorem wC_v {c k : Nat} (h : vM c k = false) : wC c k = false := by
  unfold vM at h; unfold wC; simp at h ⊢; omega
/-- both walks -/
theorem eBoth {N : Nat} (hN : 20000000 < N) {hS hM : MH} (h : Inv2 hS hM) {G n m : Nat} (hE : IvE hS hM G n m) (hn : 0 < n) {y1 y2 : Nat} (hy1 : y1 < 20) (hy2 : y2 < 20) {set need : Nat} (hset : set < 2 ^ n) (hneed : need ≤ 54) :
    ∃ P s mv hx hs hm, P.1 = n ∧ n ≤ 6 ∧ f_S_walkAll N (nI y1) (nI y2) (nI set) (nI need) hS = some hx ∧ f_M_see N (nI y1) (nI y2) hM = some hs ∧ f_M_count N (gI hs 68 67) (nI set) hs = some (nJ (cn (vld P s mv) (10 ^ n)), hm) ∧ Fr vS hS hx ∧ Fr vM hM hm ∧ RW' P s mv set need false hx (10 ^ n) ∧ MCt P s mv set hm (10 ^ n) := by
  obtain ⟨hx, hs, mv, a1, a2, a3, a4, a5, a6, a7, a8, a9, a10, a11, a12⟩ := ePrep (N := N) (by omega) h hE hy1 hy2
  obtain ⟨s, s1, s2, s3⟩ := Inv_s h
  have hn6 : n ≤ 6 := a5.1
  have hW : IvW hx := Inv_W (Inv_vol h a3 a4)
  obtain ⟨hx', b1, b2, b3⟩ := eAll (N := N) (by omega) (P := PBo hM hs n m) s1 hset hneed hn a5 hW a9 a7
  have hset' : set < 256 := by have := p256 (show n ≤ 8 by omega); omega
  obtain ⟨hm, c1, c2, c3⟩ := eCount (N := N) hN (P := PBo hM hs n m) s1 a9 a10 hset' a6 (by rw [a11.i 68 66 rfl]; exact s3)
  refine ⟨PBo hM hs n m, s, mv, hx', hs, hm, rfl, hn6, ?_, a2, by rw [a8]; exact c1, a3.trans b2, a4.trans (c2.mono (fun _ _ => wC_v)), b3, c3⟩
  unfold f_S_walkAll
  rw [hE.2.1, a1, bnd_some, a3.i 1 15 rfl, s2, b1, bnd_some]
