/-! LAND: what has been read of a land so far -/
def DC (hS hM : MH) (D nc nm : Nat) : Prop := (D = 5 ∨ D = 54) ∧ gR hS 3 9 = D ∧ (nc ≤ 6 ∧ nm ≤ 8) ∧ (gI hS D 0 = nI nc ∧ gI hM 68 29 = nI nc) ∧ (gI hS D 1 = nI nm ∧ gI hM 68 30 = nI nm)
def DU (hS hM : MH) (D nc : Nat) : Prop := (∀ k, k < 48 → gI hS (D + 1) k = gI hM 81 k ∧ (-9 ≤ (gI hM 81 k).toInt ∧ (gI hM 81 k).toInt ≤ 9)) ∧ (∀ c k, nc ≤ c → c < 6 → k < 8 → gI hM 81 (8 * c + k) = 0) ∧ (∃ M, M < 2 ^ 48 ∧ gJ hS 3 11 = nJ M ∧ ∀ p, p < 48 → gI hM 84 p = if M.testBit p = true then 1 else 0)
def DN (hS hM : MH) (D nc : Nat) : Prop := (∀ a, a < 6 → ∃ s, s < 64 ∧ gI hS (D + 2) a = nI s ∧ ∀ b, b < 6 → gI hM 82 (6 * a + b) = if s.testBit b = true then 1 else 0) ∧ (∀ a b, a < 6 → b < 6 → gI hM 82 (6 * a + b) = gI hM 82 (6 * b + a)) ∧ (∀ a, a < 6 → gI hM 82 (6 * a + a) = 0) ∧ (∀ a b, nc ≤ a → a < 6 → b < 6 → gI hM 82 (6 * a + b) = 0)
def DS (hS hM : MH) (D nc : Nat) : Prop := (∀ c, c < nc → gI hS (D + 3) c = gI hM 78 c ∧ gI hS (D + 4) c = gI hM 79 c ∧ gI hS (D + 5) c = gI hM 80 c ∧ ∃ a b d, a ≤ 999 ∧ b ≤ 100 ∧ d ≤ 100 ∧ gI hM 78 c = nI a ∧ gI hM 79 c = nI b ∧ gI hM 80 c = nI d) ∧ (∀ c, nc ≤ c → c < 6 → gI hS (D + 4) c = 100 ∧ gI hS (D + 5) c = 100) ∧ (∃ K, K < 64 ∧ gI hS 3 12 = nI K ∧ (∀ c, c < nc → gI hM 83 c = if K.testBit c = true then 1 else 0) ∧ ∀ c, nc ≤ c → K.testBit c = false)
/-- the draft, and the names -/
def PR (n : Nat) (B : Nat → Nat) (hS hM : MH) (D nc nm : Nat) : Prop := DC hS hM D nc nm ∧ DU hS hM D nc ∧ DN hS hM D nc ∧ DS hS hM D nc ∧ ∃ S ns ST SP, NR n B hS hM S ns nm nc ST SP
theorem DC_eq {hS hM hS' hM' : MH} {D nc nm : Nat} (h : DC hS hM D nc nm) (e1 : gR hS' 3 9 = gR hS 3 9) (e2 : gI hS' D 0 = gI hS D 0) (e3 : gI hS' D 1 = gI hS D 1) (e4 : gI hM' 68 29 = gI hM 68 29) (e5 : gI hM' 68 30 = gI hM 68 30) : DC hS' hM' D nc nm := by
  unfold DC at h ⊢; rw [e1, e2, e3, e4, e5]; exact h
theorem DU_eq {hS hM hS' hM' : MH} {D nc : Nat} (h : DU hS hM D nc) (e1 : ∀ k, gI hS' (D + 1) k = gI hS (D + 1) k) (e2 : gJ hS' 3 11 = gJ hS 3 11) (e3 : ∀ k, gI hM' 81 k = gI hM 81 k) (e4 : ∀ k, gI hM' 84 k = gI hM 84 k) : DU hS' hM' D nc := by
  unfold DU at h ⊢; simp only [e1, e2, e3, e4]; exact h
theorem DN_eq {hS hM hS' hM' : MH} {D nc : Nat} (h : DN hS hM D nc) (e1 : ∀ k, gI hS' (D + 2) k = gI hS (D + 2) k) (e2 : ∀ k, gI hM' 82 k = gI hM 82 k) : DN hS' hM' D nc := by
  unfold DN at h ⊢; simp only [e1, e2]; exact h
theorem DS_eq {hS hM hS' hM' : MH} {D nc : Nat} (h : DS hS hM D nc) (e1 : ∀ k, gI hS' (D + 3) k = gI hS (D + 3) k) (e2 : ∀ k, gI hS' (D + 4) k = gI hS (D + 4) k) (e3 : ∀ k, gI hS' (D + 5) k = gI hS (D + 5) k) (e4 : gI hS' 3 12 = gI hS 3 12) (e5 : ∀ k, gI hM' 78 k = gI hM 78 k) (e6 : ∀ k, gI hM' 79 k = gI hM 79 k) (e7 : ∀ k, gI hM' 80 k = gI hM 80 k) (e8 : ∀ k, gI hM' 83 k = gI hM 83 k) : DS hS' hM' D nc := by
  unfold DS at h ⊢; simp only [e1, e2, e3, e4, e5, e6, e7, e8]; exact h
theorem NR_eq {n : Nat} {B : Nat → Nat} {hS hM hS' hM' : MH} {S ns nm nc : Nat} {ST SP : Nat → Nat} (h : NR n B hS hM S ns nm nc ST SP) (e1 : gI hS' 11 4 = gI hS 11 4) (e2 : ∀ k, gI hS' 12 k = gI hS 12 k) (e3 : ∀ k, gI hS' 13 k = gI hS 13 k) (e4 : ∀ k, gI hS' 14 k = gI hS 14 k) (e5 : ∀ k, gI hS' 15 k = gI hS 15 k) (f1 : gI hM' 68 28 = gI hM 68 28) (f2 : gI hM' 68 30 = gI hM 68 30) (f3 : ∀ k, gJ hM' 74 k = gJ hM 74 k) (f4 : ∀ k, gJ hM' 75 k = gJ hM 75 k) (f5 : ∀ k, gI hM' 76 k = gI hM 76 k) (f6 : ∀ k, gI hM' 77 k = gI hM 77 k) : NR n B hS' hM' S ns nm nc ST SP := by
  unfold NR NRi NRs NRm at h ⊢; simp only [e1, e2, e3, e4, e5, f1, f2, f3, f4, f5, f6]; exact h
theorem PR_fr {n : Nat} {B : Nat → Nat} {hS hM hS' hM' : MH} {D nc nm : Nat} (h : PR n B hS hM D nc nm) (fS : Fr wTk hS hS') (fM : Fr wRd hM hM') : PR n B hS' hM' D nc nm := by
  obtain ⟨c, u, w, s, S, ns, ST, SP, r⟩ := h
  have hD := c.1
  have t1 : ∀ q k, 5 ≤ q → wTk q k = false := fun q k hq => by unfold wTk; simp; omega
  refine ⟨DC_eq c (fS.r 3 9 rfl) (fS.i D 0 (t1 _ _ (by omega))) (fS.i D 1 (t1 _ _ (by omega))) (fM.i 68 29 rfl) (fM.i 68 30 rfl), DU_eq u (fun k => fS.i _ k (t1 _ _ (by omega))) (fS.j 3 11 rfl) (fun k => fM.i 81 k rfl) (fun k => fM.i 84 k rfl), DN_eq w (fun k => fS.i _ k (t1 _ _ (by omega))) (fun k => fM.i 82 k rfl), DS_eq s (fun k => fS.i _ k (t1 _ _ (by omega))) (fun k => fS.i _ k (t1 _ _ (by omega))) (fun k => fS.i _ k (t1 _ _ (by omega))) (fS.i 3 12 rfl) (fun k => fM.i 78 k rfl) (fun k => fM.i 79 k rfl) (fun k => fM.i 80 k rfl) (fun k => fM.i 83 k rfl), S, ns, ST, SP, NR_eq r (fS.i 11 4 rfl) (fun k => fS.i 12 k rfl) (fun k => fS.i 13 k rfl) (fun k => fS.i 14 k rfl) (fun k => fS.i 15 k rfl) (fM.i 68 28 rfl) (fM.i 68 30 rfl) (fun k => fM.j 74 k rfl) (fun k => fM.j 75 k rfl) (fun k => fM.i 76 k rfl) (fun k => fM.i 77 k rfl)⟩
/-- cells of the draft and of the names: the class's, the reference's -/
def wDS (D c k : Nat) : Bool := wTk c k || (c == 3 && (11 ≤ k && k ≤ 12)) || (11 ≤ c && c ≤ 15) || (D ≤ c && c ≤ D + 5)
def wDM (c k : Nat) : Bool := wRd c k || (c == 68 && (28 ≤ k && k ≤ 30)) || (74 ≤ c && c ≤ 84)
theorem wTk_D {D c k : Nat} (h : wDS D c k = false) : wTk c k = false := by
  unfold wDS at h; simp at h; exact h.1.1.1
theorem wRd_D {c k : Nat} (h : wDM c k = false) : wRd c k = false := by
  unfold wDM at h; simp at h; exact h.1.1
theorem wF_D {c k : Nat} (h : wDM c k = false) : wF c k = false := wF_R (wRd_D h)
theorem wN_D {c k : Nat} (h : wDM c k = false) : wN c k = false := wN_F (wF_D h)
theorem LV_D {n D : Nat} (hD : D = 5 ∨ D = 54) {B : Nat → Nat} {hS hM hS' hM' : MH} {t : Nat × Nat × Nat × Nat} (l : LV n B hS hM t) (fS : Fr (fun c k => (c == 3 && (11 ≤ k && k ≤ 12)) || (11 ≤ c && c ≤ 15) || (D ≤ c && c ≤ D + 5)) hS hS') (fM : Fr (fun c k => (c == 68 && (28 ≤ k && k ≤ 30)) || (74 ≤ c && c ≤ 84)) hM hM') : LV n B hS' hM' t := LV_fr l fS fM (fun k h1 h2 => by simp; omega) (fun k => by simp; omega) (fun k h1 h2 => by simp; omega) (fun _ => rfl)
/-- a part, or a piece of one, on both sides -/
def PO (n : Nat) (B : Nat → Nat) (D : Nat) (hS hM : MH) (s m : Option (Int32 × MH)) (P : MH → MH → Prop) : Prop := ∃ hS' hM', Fr (wDS D) hS hS' ∧ Fr wDM hM hM' ∧ ((s = some (1, hS') ∧ m = some (1, hM') ∧ P hS' hM') ∨ (s = some (0, hS') ∧ m = some (0, hM') ∧ DD n B hS' hM'))
theorem narz (h : MH) : (match narOK 1 ((0 : Int32), h).1 with
  | true => some (((0 : Int32), h).1, ((0 : Int32), h).2)
  | false => none) = some ((0 : Int32), h) := rfl
/-- a cell's name and number: the class's seeCell, then advance; the reference's cell -/
theorem cellB {N n : Nat} (hN : 3000 < N) {B : Nat → Nat} {hS hM : MH} {t : Nat × Nat × Nat × Nat} {D nc nm : Nat} (l : LV n B hS hM t) (pr : PR n B hS hM D nc nm) :
    (∃ cl hS1 hS' hM' t', cl < nc ∧ f_Reader_seeCell N hS = some (nI cl, hS1) ∧ f_Reader_advance N hS1 = some hS' ∧ f_M_cell N hM = some (1, hM') ∧ gI hM' 68 39 = nI cl ∧ LV n B hS' hM' t' ∧ t.2.1 < t'.2.1 ∧ Fr wTk hS hS' ∧ Fr wRd hM hM') ∨ (∃ hS' hM', f_Reader_seeCell N hS = some (-1, hS') ∧ f_M_cell N hM = some (0, hM') ∧ DD n B hS' hM' ∧ Fr wTk hS hS' ∧ Fr wRd hM hM') := by
  obtain ⟨x, y, g, k, m, -⟩ := id l
  obtain ⟨dc, -, -, -, S, ns, ST, SP, r⟩ := id pr
  have n6 := x.1
  have nc6 := dc.2.2.1.1
  obtain ⟨in1, in0⟩ := eIsName (N := N) (by omega) x g k
  obtain ⟨im1, im0⟩ := eNameM (N := N) (by omega) y g m
  unfold f_Reader_seeCell f_M_cell
  by_cases z : nmd B t
  case neg =>
    obtain ⟨hS', hM', a1, a2, a3, a4, a5⟩ := failB (N := N) l (a := 2) (by omega) (by omega)
    have a1' : f_Reader_fail N 2 (gI hS 3 4) hS = _ := a1
    have a2' : f_M_fails N 2 hM = _ := a2
    rw [in0 z, im0 z, bnd_some, bnd_some]
    dsimp only
    rw [if_pos rfl, if_pos (by decide), a1', a2', bnd_some, bnd_some]
    exact .inr ⟨hS', hM', rfl, rfl, a3, a4, a5.mono (fun _ _ => wF_R)⟩
  have p : t.1 ≠ 1 := by rw [z.1]; decide
  have lt := g.2.2.2.1 p (by rw [z.1]; decide)
  obtain ⟨nl, -⟩ := nv_lt (fun k hk => (x.2.2 k hk).1) g z
  have nm1 : ¬ lg_cmp (nJ (nv B t)) (-1) = 0 := by
    rw [cmp0]
    intro w
    have := congrArg Int64.toInt w
    rw [nJ_toInt nl, show (-1 : Int64).toInt = -1 from rfl] at this
    omega
  rw [in1 z, im1 z, bnd_some, bnd_some]
  dsimp only
  rw [if_neg (by decide), if_neg nm1, k.2.1, k.2.2.1 p]
  -- no sheet of this name
  have none3 : ∃ hS' hM', f_Reader_fail N 3 (nI t.2.1) hS = some (0, hS') ∧ f_M_fails N 3 hM = some (0, hM') ∧ DD n B hS' hM' ∧ Fr wTk hS hS' ∧ Fr wF hM hM' := by
    obtain ⟨hS', hM', a1, a2, a3, a4, a5⟩ := failB (N := N) l (a := 3) (by omega) (by omega)
    rw [k.2.1] at a1
    exact ⟨hS', hM', a1, a2, a3, a4, a5⟩
  rcases nameB (N := N) (by omega) l r z with ⟨n1, n2, n3, n4⟩ | ⟨i, s, f, c, i1, s1, n1, n2, n3, n4, n5, n6', n7, n8, n9⟩ | ⟨i, q, i1, q1, n1, n2, n3, n4, n5⟩
  · obtain ⟨hS', hM', a1, a2, a3, a4, a5⟩ := none3
    rw [n1, n2, bnd_some, bnd_some]
    dsimp only
    rw [if_pos (by decide), if_pos rfl, k.2.1, a1, a2, bnd_some, bnd_some]
    exact .inr ⟨hS', hM', rfl, rfl, a3, a4, a5.mono (fun _ _ => wF_R)⟩
  · have S14 : S ≤ 14 := by have := r.1; omega
    have ns6 : ns ≤ 6 := by have := r.1; omega
    have ib : inB (nI i) 14 = true := by rw [inB_nI (by omega)]; omega
    have ib2 : inB (nI s) 6 = true := by rw [inB_nI (by omega)]; omega
    obtain ⟨hS1, hM1, t1, b1, b2, b3, b4, b5, b6, b7⟩ := advB (N := N) (by omega) l p
    have h77 : gI hM1 77 s = nI c := by rw [b5.i 77 s rfl]; exact n7
    have h15 : gI hS1 15 i = nI c := by rw [b4.i 15 i rfl]; exact n5
    rw [n1, n2, bnd_some, bnd_some]
    dsimp only
    rw [if_neg (show ¬ nI i < 0 by rw [show (0 : Int32) = nI 0 from rfl, nN_lt (by omega) (by omega)]; omega), if_pos ib, iN_nI (by omega), n5, if_neg (show ¬ nI c = 0 by rw [show (0 : Int32) = nI 0 from rfl, nN_inj (by omega) (by omega)]; omega), if_neg (nI_n1 (by omega)), b1, b2, bnd_some, bnd_some, if_pos ib, if_pos ib2, iN_nI (by omega), h15, h77, show nI c - 1 = nI (c - 1) from nN_sub (show 1 ≤ c by omega)]
    rcases numB (N := N) (by omega) b3 (a := 0) (b := c - 1) (by omega) (by omega) with ⟨hS2, hM2, q1, q2, q3, q4, q5, q6, q7, q8, q9, q10, q11, q12, q13⟩ | ⟨hS2, hM2, -, q1, q2, q3, q4, q5⟩
    · have q5' : f_Reader_seesNumber N 0 (nI (c - 1)) hS1 = _ := q5
      have q7' : f_M_number N 0 (nI (c - 1)) hM1 = _ := q7
      have h14 : gI hS1 14 i = nI f := by rw [b4.i 14 i rfl]; exact n4
      have h76 : gI hM2 76 s = nI f := by rw [q13.i 76 s rfl, b5.i 76 s rfl]; exact n6'
      rw [q5', q7', bnd_some, bnd_some]
      dsimp only
      have ne : ¬ (1 : Int32) = 0 := by decide
      rw [if_neg ne, if_neg ne, if_pos ib, if_pos ib2, h14, q4, nN_add, h76, q8, nN_add]
      refine .inl ⟨f + t1.2.2.2, hS1, hS2, sI hM2 68 39 (nI (t1.2.2.2 + f)), tok B n t1.2.2.1, by omega, rfl, q6, rfl, ?_, ?_, ?_, b4.trans q12, ?_⟩
      · show nI (t1.2.2.2 + f) = _
        rw [Nat.add_comm]
      · exact LV_fr q9 (Fr.rfl (W := fun _ _ => false)) ((Fr.rfl (W := fun c k => c == 68 && k == 39)).sI 68 39 _ rfl) (fun _ _ _ => rfl) (fun _ => rfl) (fun k h1 h2 => by simp; omega) (fun _ => rfl)
      · have := b6; omega
      · refine ((b5.mono (fun _ _ => wN_R)).trans (q13.mono (fun a b w => ?_))).sI 68 39 _ rfl
        have := wF_R w
        unfold wRd at w
        simp at w ⊢
        exact ⟨this, by have := w.1; omega⟩
    · have q1' : f_Reader_seesNumber N 0 (nI (c - 1)) hS1 = _ := q1
      have q2' : f_M_number N 0 (nI (c - 1)) hM1 = _ := q2
      rw [q1', q2', bnd_some, bnd_some]
      dsimp only
      rw [if_pos rfl, if_pos rfl]
      exact .inr ⟨hS2, hM2, rfl, rfl, q3, b4.trans q4, (b5.mono (fun _ _ => wN_R)).trans (q5.mono (fun _ _ => wF_R))⟩
  · obtain ⟨hS', hM', a1, a2, a3, a4, a5⟩ := none3
    have S14 : S ≤ 14 := by have := r.1; omega
    rw [n1, n2, bnd_some, bnd_some]
    dsimp only
    rw [if_neg (show ¬ nI i < 0 by rw [show (0 : Int32) = nI 0 from rfl, nN_lt (by omega) (by omega)]; omega), if_pos (by rw [inB_nI (by omega)]; omega), iN_nI (by omega), if_pos n4, if_pos rfl, k.2.1, a1, a2, bnd_some, bnd_some]
    exact .inr ⟨hS', hM', rfl, rfl, a3, a4, a5.mono (fun _ _ => wF_R)⟩
