/-! SLIPS: quarrel, the walk over sets -/
def VT (P : PB) (s a : Nat) : Prop := ∃ y : Nat → Nat, (∀ i, y i < 10) ∧ okS P s y ∧ ∀ k, k < P.2.1 → a.testBit k = true → okM P k y
def MSt (P : PB) (s mv : Nat) (h : MH) : Prop := (∀ a, a < 256 → gI h 47 a = 0 ∨ gI h 47 a = 1) ∧ (∀ a, a < 256 → gI h 47 a = 1 → VT P s a) ∧ (∀ a b, a < 256 → b < 256 → subS b a → gI h 47 a = 1 → gI h 47 b = 1)
def CPl (P : PB) (s mv : Nat) (h : MH) (y : Nat → Nat) : Prop := ∀ a, a < 256 → subS a mv → (∀ k, k < P.2.1 → a.testBit k = true → okM P k y) → gI h 47 a = 1
def GRw (h h' : MH) : Prop := ∀ a, a < 256 → gI h 47 a = 1 → gI h' 47 a = 1
def wV (c0 c k : Nat) : Bool := (c == 40 && c0 ≤ k) || (c == 41 && 8 * (c0 + 1) ≤ k) || c == 47
theorem wV_W {c0 c k : Nat} (h : wW c k = false) : wV c0 c k = false := by
  unfold wW at h; unfold wV; simp at h ⊢; omega
theorem wV_up {c0 c k : Nat} (h : wV c0 c k = false) : wV (c0 + 1) c k = false := by
  unfold wV at h ⊢; simp at h ⊢; omega
theorem PX_V {P : PB} {h h' : MH} {c : Nat} {x : Nat → Nat} (p : PX P h c x) (p2 : P.2.1 ≤ 8) (f : Fr (wV c) h h') : PX P h' c x := by
  refine ⟨fun i hi => by rw [f.i 40 i (by simp [wV]; omega)]; exact p.1 i hi, fun i k hi hk => ?_⟩
  rw [f.i 41 _ (by simp [wV]; omega)]
  exact p.2 i k hi hk
theorem eVisitSets {N : Nat} (hN : 1000 < N) {P : PB} {mv s : Nat} (hs : s ≤ 9) (hmm : ∀ k, P.2.1 ≤ k → mv.testBit k = false) : ∀ (D c marks : Nat) (x : Nat → Nat) (h : MH), P.1 < c + D → c ≤ P.1 → AS P mv h → PX P h c x → (∀ i, x i < 10) → gI h 42 0 = nI s → marks < 256 → (∀ k, marks.testBit k = true → mv.testBit k = true) → (∀ y : Nat → Nat, (∀ i, y i < 10) → (∀ i, i < c → y i = x i) → ∀ k, k < P.2.1 → mv.testBit k = true → okM P k y → marks.testBit k = true) → PN P s c x → MSt P s mv h →
    ∃ h', f_Walk_visitSets N D (nI c) (nI marks) h = some h' ∧ Fr (wV c) h h' ∧ MSt P s mv h' ∧ GRw h h' ∧ ∀ y : Nat → Nat, (∀ i, y i < 10) → (∀ i, i < c → y i = x i) → okS P s y → CPl P s mv h' y := by
  intro D
  induction D with
  | zero => intro c marks x h hD hc; omega
  | succ D ih =>
    intro c marks x h hD hc as px x9 w0 hm hsub rm pn ms
    obtain ⟨p1, p2, p3, p4, -⟩ := id as
    obtain ⟨v, a1, a2⟩ := eWithin (N := N) (by omega) hc as px x9 hm hsub
    have v256 := a2.1
    have k8 : ∀ k, v.testBit k = true → k < 8 := fun k q => by
      rcases Nat.lt_or_ge k 8 with z | z
      · exact z
      · rw [Nat.testBit_lt_two_pow (Nat.lt_of_lt_of_le v256 (Nat.pow_le_pow_right (n := 2) (i := 8) (by omega) z))] at q; exact absurd q (by decide)
    have vsub : ∀ k, v.testBit k = true → mv.testBit k = true := fun k q => hsub k ((a2.2 k (k8 k q)).mp q).2.1
    have rv : ∀ y : Nat → Nat, (∀ i, y i < 10) → (∀ i, i < c → y i = x i) → ∀ k, k < P.2.1 → mv.testBit k = true → okM P k y → v.testBit k = true := fun y y9 e k hk hb ok => (a2.2 k (by omega)).mpr ⟨hk, rm y y9 e k hk hb ok, okM_rea hc y9 e ok⟩
    -- what fits lies in v
    have inv : ∀ y : Nat → Nat, (∀ i, y i < 10) → (∀ i, i < c → y i = x i) → ∀ a, subS a mv → (∀ k, k < P.2.1 → a.testBit k = true → okM P k y) → subS a v := fun y y9 e a sa ok k hk hb => by
      have mb := sa k hk hb
      have jm : k < P.2.1 := by
        rcases Nat.lt_or_ge k P.2.1 with z | z
        · exact z
        · rw [hmm k z] at mb; exact absurd mb (by decide)
      exact rv y y9 e k jm mb (ok k jm hb)
    show ∃ h', g_Walk_visitSets N (f_Walk_visitSets N D) (nI c) (nI marks) h = some h' ∧ _
    unfold g_Walk_visitSets F_Walk_visitSets_0
    have ib : inB (nI v) 256 = true := by rw [inB_nI (by omega)]; exact v256
    rw [a1, bnd_some]
    dsimp only
    rw [if_pos ib, iN_nI (by omega)]
    rcases ms.1 v v256 with z | z
    case inr =>
      rw [if_neg (by rw [z]; decide)]
      exact ⟨h, rfl, Fr.rfl, ms, fun _ _ q => q, fun y y9 e _ a ha sa ok => ms.2.2 v a v256 ha (inv y y9 e a sa ok) z⟩
    rw [if_pos z, p3]
    by_cases cn' : c = P.1
    · rw [if_pos (by rw [nN_le (by omega) (by omega)]; omega)]
      obtain ⟨h', b1, b2, b3⟩ := eNoteMet (N := N) hN v256 h
      rw [b1, bnd_some]
      have gr : GRw h h' := fun a ha q => by
        by_cases w : subS a v
        · exact (b3 a ha).1 w
        · rw [(b3 a ha).2 w]; exact q
      refine ⟨h', rfl, b2.mono (fun a b q => by simp [wV] at q; simp [w47]; omega), ⟨fun a ha => ?_, fun a ha q => ?_, fun a b ha hb sb q => ?_⟩, gr, fun y y9 e _ a ha sa ok => (b3 a ha).1 (inv y y9 e a sa ok)⟩
      · by_cases w : subS a v
        · exact .inr ((b3 a ha).1 w)
        · rw [(b3 a ha).2 w]; exact ms.1 a ha
      · by_cases w : subS a v
        · refine ⟨x, x9, fun i j hij hi hb => pn i j hij (by omega) hb, fun k hk hb => rea_okM ?_⟩
          have := ((a2.2 k (by omega)).mp (w k (by omega) hb)).2.2
          rw [cn'] at this; exact this
        · rw [(b3 a ha).2 w] at q; exact ms.2.1 a ha q
      · by_cases w : subS a v
        · exact (b3 b hb).1 (fun k hk q => w k hk (sb k hk q))
        · rw [(b3 a ha).2 w] at q
          exact gr b hb (ms.2.2 a b ha hb sb q)
    · have cl : c < P.1 := by omega
      rw [if_neg (by rw [nN_le (by omega) (by omega)]; omega), show (6 : Int32) = nI 6 from rfl, if_pos (by rw [nN_lt (by omega) (by omega)]; omega), w0]
      obtain ⟨M, m1, m2, m3⟩ := eMost (N := N) (by omega) (s := s) (show c < 6 by omega) hs as px.1 x9
      obtain ⟨l, l1, l2, l3⟩ := eLeast (N := N) (by omega) (s := s) (show c < 6 by omega) hs as px.1 x9
      rw [m1, bnd_some]
      dsimp only
      rw [w0, l1, bnd_some]
      dsimp only
      have loop : ∀ (e d f : Nat) (y : MH), d + e = 11 → e < f → l ≤ d → Fr (wV c) h y → MSt P s mv y → GRw h y → (∀ u : Nat → Nat, (∀ i, u i < 10) → (∀ i, i < c → u i = x i) → okS P s u → u c < d → CPl P s mv y u) → ∃ h', L_Walk_visitSets N (f_Walk_visitSets N D) f (nI c) (nI v) (nI M) (nI d) y = some h' ∧ Fr (wV c) h h' ∧ MSt P s mv h' ∧ GRw h h' ∧ ∀ u : Nat → Nat, (∀ i, u i < 10) → (∀ i, i < c → u i = x i) → okS P s u → CPl P s mv h' u := by
        intro e
        induction e with
        | zero =>
          intro d f y he hf hl fr my gr cp
          obtain ⟨f, rfl⟩ : ∃ z, f = z + 1 := ⟨f - 1, by omega⟩
          refine ⟨y, ?_, fr, my, gr, fun u u9 e o => cp u u9 e o (by have := u9 c; omega)⟩
          show F_Walk_visitSets_62 N _ _ _ _ (nI M) (nI d) y = _
          unfold F_Walk_visitSets_62
          rw [if_pos (by rw [nN_lt (by omega) (by omega)]; omega)]
        | succ e ihe =>
          intro d f y he hf hl fr my gr cp
          obtain ⟨f, rfl⟩ : ∃ z, f = z + 1 := ⟨f - 1, by omega⟩
          show ∃ h', F_Walk_visitSets_62 N (f_Walk_visitSets N D) (L_Walk_visitSets N (f_Walk_visitSets N D) f) (nI c) (nI v) (nI M) (nI d) y = some h' ∧ _
          unfold F_Walk_visitSets_62
          by_cases dm : M < d
          · rw [if_pos (by rw [nN_lt (by omega) (by omega)]; exact dm)]
            refine ⟨y, rfl, fr, my, gr, fun u u9 e o => cp u u9 e o ?_⟩
            have := (m3 (u c) (by have := u9 c; omega)).mpr (fun q hq hb => by have := (o c q hq cl hb).1; rw [e q hq] at this; exact this)
            omega
          · rw [if_neg (by rw [nN_lt (by omega) (by omega)]; exact dm)]
            have asy := AS_fr as (fr.mono (fun _ _ => wV_W))
            obtain ⟨y1, q1, q2, q3⟩ := ePut (N := N) (by omega) (show c < 6 by omega) (show d < 10 by omega) asy (PX_V px p2 fr) x9
            have f1 : Fr (wV c) y y1 := q2.mono (fun a b q => by simp [wV] at q; simp; omega)
            have e47 : ∀ a, gI y1 47 a = gI y 47 a := fun a => q2.i 47 a (by simp)
            have my1 : MSt P s mv y1 := by
              refine ⟨fun a ha => by rw [e47]; exact my.1 a ha, fun a ha => by rw [e47]; exact my.2.1 a ha, fun a b ha hb sb => by rw [e47, e47]; exact my.2.2 a b ha hb sb⟩
            have fy1 := fr.trans f1
            have dl := (l3 d).mp hl
            have du := (m3 d (by omega)).mp (by omega)
            obtain ⟨y2, r1, r2, r3, r4, r5⟩ := ih (c + 1) v (fun i => if i = c then d else x i) y1 (by omega) (by omega) (AS_fr as (fy1.mono (fun _ _ => wV_W))) q3 (fun i => by show (if i = c then d else x i) < 10; split; omega; exact x9 i) (by rw [fy1.i 42 0 (by simp [wV])]; exact w0) v256 vsub (fun u u9 e k hk hb ok => rv u u9 (fun i hi => by have := e i (by omega); rw [this]; show (if i = c then d else x i) = x i; rw [if_neg (by omega)]) k hk hb ok) (fun i j hij hi hb => by
              show (if i = c then d else x i) ≤ (if j = c then d else x j) + s ∧ (if j = c then d else x j) ≤ (if i = c then d else x i) + s
              rw [if_neg (show ¬ j = c by omega)]
              by_cases w : i = c
              · subst w
                rw [if_pos rfl]
                exact ⟨du j hij hb, dl j hij hb⟩
              · rw [if_neg w]
                exact pn i j hij (by omega) hb) my1
            rw [q1, bnd_some, show nI c + 1 = nI (c + 1) from nN_add c 1, r1, bnd_some]
            dsimp only
            rw [show nI d + 1 = nI (d + 1) from nN_add d 1]
            have gr2 : GRw y y2 := fun a ha q => r4 a ha (by rw [e47]; exact q)
            refine ihe (d + 1) f y2 (by omega) (by omega) (by omega) (fy1.trans (r2.mono (fun _ _ => wV_up))) r3 (fun a ha q => gr2 a ha (gr a ha q)) (fun u u9 e o hd => ?_)
            by_cases w : u c = d
            · refine r5 u u9 (fun i hi => ?_) o
              show u i = (if i = c then d else x i)
              by_cases w2 : i = c
              · rw [if_pos w2, w2]; exact w
              · rw [if_neg w2]; exact e i (by omega)
            · exact fun a ha sa ok => gr2 a ha (cp u u9 e o (by omega) a ha sa ok)
      have := loop (11 - l) l (N + 1) h (by omega) (by omega) (Nat.le_refl _) Fr.rfl ms (fun _ _ q => q) (fun u u9 e o hd => by
        have := (l3 (u c)).mpr (fun q hq hb => by have := (o c q hq cl hb).2; rw [e q hq] at this; exact this)
        omega)
      exact this
