
def NWT : List (Nat × Nat × Nat × Nat × Nat × Nat) := [(13, 7, 11, 174, 175, 152), (11, 9, 9, 182, 559, 163), (11, 15, 7, 184, 185, 153), (7, 40, 2, 190, 191, 154), (7, 47, 5, 235, 236, 155), (11, 22, 3, 302, 303, 156), (11, 29, 4, 365, 366, 157), (11, 36, 8, 390, 391, 158), (11, 43, 0, 410, 411, 159), (11, 50, 10, 462, 463, 160), (11, 57, 6, 525, 526, 161), (11, 64, 1, 536, 537, 162), (11, 78, 2, 557, 191, 154), (13, 10, 12, 1344, 1345, 164)]
def OBT : List (Nat × Nat × Nat) := [(11, 1, 179), (7, 3, 189), (2, 3, 195), (5, 3, 240), (3, 3, 307), (4, 1, 370), (8, 3, 395), (0, 3, 415), (10, 3, 467), (6, 3, 530), (1, 3, 541), (9, 3, 563), (12, 1, 1349)]
def ACT : List (Nat × Nat × Nat) := [(11, 150, 707), (0, 67, 1105), (10, 169, 1149)]
def inNW (own idx ci : Nat) : Bool := NWT.any (fun q => Nat.beq q.1 own && Nat.beq q.2.1 idx && Nat.beq q.2.2.1 ci)
def inOB (own idx : Nat) : Bool := OBT.any (fun q => Nat.beq q.1 own && Nat.beq q.2.1 idx)
def inAC (own idx : Nat) : Bool := ACT.any (fun q => Nat.beq q.1 own && Nat.beq q.2.1 idx)
theorem nw_all : NWT.all (fun q => match vwCl[q.2.2.1]? with
  | some (C, _, N) => decide (lw_tbl[q.2.2.2.1]? = some (.classLink (cN q.1) q.2.1 C)) && decide (lw_tbl[q.2.2.2.2.1]? = some (.instantiable C N)) && decide (lw_tbl[q.2.2.2.2.2]? = some (.initialized C))
  | none => false) = true := by decide +kernel
theorem ob_all : OBT.all (fun q => decide (lw_tbl[q.2.2]? = some (.methodLink (cN q.1) q.2.1 Lib.objectInit))) = true := by decide +kernel
theorem ac_all : ACT.all (fun q => decide (lw_tbl[q.2.2]? = some (.methodLink (cN q.1) q.2.1 arraycopyName))) = true := by decide +kernel
theorem w_oi : lw_tbl[180]? = some (.instanceMethod Lib.objectInit) := by decide +kernel
theorem w_oc : lw_tbl[181]? = some (.code Lib.objectInit ⟨#[0xb1]⟩ 1 none) := by decide +kernel
theorem w_as : lw_tbl[708]? = some (.static arraycopyName) := by decide +kernel
theorem w_an : lw_tbl[709]? = some (.native arraycopyName) := by decide +kernel
theorem w_sy : lw_tbl[166]? = some (.initialized "java/lang/System") := by decide +kernel
theorem w_aI : lw_tbl[234]? = some (.arrayClass .int) := by decide +kernel
theorem w_aJ : lw_tbl[535]? = some (.arrayClass .long) := by decide +kernel
theorem w_aB : lw_tbl[233]? = some (.arrayClass .byte) := by decide +kernel
theorem w_aZ : lw_tbl[364]? = some (.arrayClass .boolean) := by decide +kernel
theorem NW_ok {own idx ci : Nat} (h : inNW own idx ci = true) : ∃ C T N, vwCl[ci]? = some (C, T, N) ∧ Cond.classLink (cN own) idx C ∈ TB ∧ Cond.instantiable C N ∈ TB ∧ Cond.initialized C ∈ TB := by
  obtain ⟨q, hq, h1⟩ := List.any_eq_true.mp h
  simp only [Bool.and_eq_true] at h1
  obtain ⟨⟨e1, e2⟩, e3⟩ := h1
  have e1 := Nat.eq_of_beq_eq_true e1
  have e2 := Nat.eq_of_beq_eq_true e2
  have e3 := Nat.eq_of_beq_eq_true e3
  have h2 := List.all_eq_true.mp nw_all q hq
  obtain ⟨a1, a2, a3, a4, a5, a6⟩ := q
  simp only at e1 e2 e3
  subst e1 e2 e3
  dsimp only at h2
  split at h2
  · rename_i C T N hv
    simp only [Bool.and_eq_true, decide_eq_true_eq] at h2
    exact ⟨C, T, N, hv, TB_in _ h2.1.1 rfl, TB_in _ h2.1.2 rfl, TB_in _ h2.2 rfl⟩
  · cases h2
theorem OB_ok {own idx : Nat} (h : inOB own idx = true) : Cond.methodLink (cN own) idx Lib.objectInit ∈ TB := by
  obtain ⟨q, hq, h1⟩ := List.any_eq_true.mp h
  simp only [Bool.and_eq_true] at h1
  have e1 := Nat.eq_of_beq_eq_true h1.1
  have e2 := Nat.eq_of_beq_eq_true h1.2
  have h2 := List.all_eq_true.mp ob_all q hq
  obtain ⟨a1, a2, a3⟩ := q
  simp only at e1 e2
  subst e1 e2
  exact TB_in _ (of_decide_eq_true h2) rfl
theorem AC_ok {own idx : Nat} (h : inAC own idx = true) : Cond.methodLink (cN own) idx arraycopyName ∈ TB := by
  obtain ⟨q, hq, h1⟩ := List.any_eq_true.mp h
  simp only [Bool.and_eq_true] at h1
  have e1 := Nat.eq_of_beq_eq_true h1.1
  have e2 := Nat.eq_of_beq_eq_true h1.2
  have h2 := List.all_eq_true.mp ac_all q hq
  obtain ⟨a1, a2, a3⟩ := q
  simp only at e1 e2
  subst e1 e2
  exact TB_in _ (of_decide_eq_true h2) rfl
theorem KD_small : ∀ q ∈ KDL, q.2 ≤ 20000 := by decide +kernel
theorem okv_sN {o : Option Nat} {h : MH} {v : MV} (hk : okv o h v) : okv o (sN h) v := by
  rcases v with x | x | ⟨kd, x, c⟩
  · trivial
  · trivial
  · unfold okv at hk ⊢
    dsimp only at hk ⊢
    split
    · rename_i h7
      rw [if_pos h7] at hk
      exact hk
    · rename_i h7
      rw [if_neg h7] at hk
      split
      · rename_i h8
        rw [if_pos h8] at hk
        exact hk
      · rename_i h8
        rw [if_neg h8] at hk
        obtain ⟨a, b⟩ := kOK_iff.mp hk
        exact kOK_iff.mpr ⟨Nat.le_succ_of_le a, b⟩
theorem row_sN {h : MH} {a : Nat} (ha : a ≤ h.1) : gI (sN h) a = gI h a ∧ gJ (sN h) a = gJ h a ∧ gR (sN h) a = gR h a := by
  refine ⟨funext fun b => ?_, funext fun b => ?_, funext fun b => ?_⟩ <;> (show (if a = h.1 + 1 then _ else _) = _; rw [if_neg (by omega)]; rfl)
theorem new_sN {h : MH} (b : Nat) : gI (sN h) (h.1 + 1) b = 0 ∧ gJ (sN h) (h.1 + 1) b = 0 ∧ gR (sN h) (h.1 + 1) b = 0 := by
  refine ⟨?_, ?_, ?_⟩ <;> (show (if h.1 + 1 = h.1 + 1 then _ else _) = _; rw [if_pos rfl])
theorem va_P_sN {E : EV} {h : MH} {H H1 : Heap} {kd x : Nat} (hk : KDL[h.1 + 1]? = some (kd, x)) (hP : va_P (dE E) vwCl (wsO E h) H) (o1 : ∀ q, q < H.size → H1[q]? = H[q]?) (hnew : va_at (dE E) vwCl (E.1 + (h.1 + 1), cellK E (sN h) (h.1 + 1) (kd, x)) H1) : va_P (dE E) vwCl (wsO E (sN h)) H1 := by
  rw [← ws_push (h := h) (h' := sN h) rfl (fun a ha => cellE_same (row_sN ha).1 (row_sN ha).2.1 (row_sN ha).2.2)]
  have he : cellE E (sN h) (h.1 + 1) = cellK E (sN h) (h.1 + 1) (kd, x) := by
    unfold cellE
    rw [List.getD_eq_getElem?_getD, hk]
    rfl
  rw [he]
  refine (hP.kept (fun k q hq => o1 q.1 ((hP k q hq).lt))).app (fun k q hq => ?_)
  have hz : k < 1 := (List.getElem?_eq_some_iff.mp hq).1
  rw [show k = 0 by omega] at hq
  cases hq
  exact hnew
section Steps6
variable {p : Program} {l : Launch} {e : Env} {R : Room} {s : State} {m : MethodId} {args : Array Value} {below : List Frame} {meth : Method} {c : Code} {Q : State → Prop} {cc : ByteArray} {E : EV} {o : Option Nat} {md : Bool} {n0 nL lim : Nat} {RT : Type} {next : Nat → ML → List MV → MH → Option RT} {r : RT} {pc : Nat} {lv : ML} {st : List MV} {h : MH} {C : MC} {own idx : Nat}
theorem sz_eq {T : State} {H : Heap} {locs : List Loc} {cells slots : Nat} (X : Stand p l e R s m args below meth c T locs cells slots) (hT : T.heap = H) (hs0 : s.heap.size = E.1 + n0 + 1) (hP : va_P (dE E) vwCl (wsO E h) H) (hS : va_S (fun q => E.1 < q) s.heap H locs) (hc : cells + n0 = h.1) : H.size = E.1 + h.1 + 1 := by
  have h1 : T.heap.size ≤ s.heap.size + cells := X.same.2.2.1
  rw [hT] at h1
  have h2 := hS.1
  rcases Nat.eq_zero_or_pos h.1 with z | z
  · omega
  · have := (hP (h.1 - 1) _ (ws_at z (Nat.le_refl _))).lt
    simp only at this
    omega
theorem PT_sN {ls : Array Slot} {H H1 : Heap} {locs : List Loc} {cells slots N : Nat} {kd x : Nat} {rr : List MV} (hT : PT E o md n0 nL s lv st h ls H locs cells slots) (hmd : md = true) (h5 : kd ≤ 5) (hk : KDL[h.1 + 1]? = some (kd, x)) (hr : ∀ v ∈ rr, okv o h v) (hN : szc (kd, x) = N) (z1 : H1.size = H.size + 1) (o1 : ∀ q, q < H.size → H1[q]? = H[q]?) (hnew : va_at (dE E) vwCl (E.1 + (h.1 + 1), cellK E (sN h) (h.1 + 1) (kd, x)) H1) : PT E o md n0 nL s lv (.inr (.inr (kd, x, h.1 + 1)) :: rr) (sN h) ls H1 locs (cells + 1) (slots + N) := by
  obtain ⟨hP, hS, hfin⟩ := hT.2.2.2.1
  refine ⟨hT.1, fun q hq => okv_sN (hT.2.1 q hq), okc (okv_mk h5 (kOK_iff.mpr ⟨Nat.le_refl _, hk⟩)) (fun v hv => okv_sN (hr v hv)), ⟨va_P_sN hk hP o1 hnew, ?_, fun z => by rw [hmd] at z; cases z⟩, ?_, ?_⟩
  · exact ⟨Nat.le_trans hS.1 (by omega), fun q h1 h2 => (o1 q (Nat.lt_of_lt_of_le h1 hS.1)).trans (hS.2.1 q h1 h2), hS.2.2⟩
  · show cells + 1 + n0 = h.1 + 1
    have := hT.2.2.2.2.1
    omega
  · show slots + N + ss n0 = ss (h.1 + 1)
    have := hT.2.2.2.2.2
    rw [ss_succ, List.getD_eq_getElem?_getD, hk]
    show slots + N + ss n0 = ss h.1 + szc (kd, x)
    omega
theorem room_sN {cells slots N kd x : Nat} (hc : cells + n0 = h.1) (hs : slots + ss n0 = ss h.1) (hk : KDL[h.1 + 1]? = some (kd, x)) (hN : szc (kd, x) = N) (hl : h.1 + 1 ≤ lim) (hR1 : lim ≤ R.cells + n0) (hR2 : ss lim ≤ R.slots + ss n0) : cells + 1 ≤ R.cells ∧ slots + N ≤ R.slots := by
  have h1 := ss_mono hl
  rw [ss_succ, List.getD_eq_getElem?_getD, hk] at h1
  have h1 : ss h.1 + szc (kd, x) ≤ ss lim := h1
  omega
theorem xNew_s {ci : Nat} (hx : p.tables.exec = Jvm.exec) (hb : c.code = cc) (hE : EnvOK E s) (hown : s.vm.findClass (cN own) = some m.cls) (hts : ∀ w ∈ TB, w.before args s = true) (hs0 : s.heap.size = E.1 + n0 + 1) (hC1 : C.1 = KDL.take (lim + 1)) (hC2 : C.2.1 = md) (hR1 : lim ≤ R.cells + n0) (hR2 : ss lim ≤ R.slots + ss n0) (hnw : inNW own idx ci = true)
    (hd : decode cc pc = .ok (.new idx, 3)) (hn : ∀ pc lv st h, next pc lv st h = some r → Gt p l e R s m args below meth c Q E o md n0 nL pc lv st h) (hf : xNew C next 0 ci 3 pc lv st h = some r) : Gt p l e R s m args below meth c Q E o md n0 nL pc lv st h := by
  intro ls H locs cells slots hT
  obtain ⟨hP, hS, hfin⟩ := hT.2.2.2.1
  unfold xNew at hf
  split at hf
  · rename_i hq
    rw [Bool.and_eq_true, hC1] at hq
    have hmd : md = true := by rw [← hC2]; exact hq.2
    obtain ⟨hk, hlim⟩ := kOK_take hq.1
    have hk := (kOK_iff.mp hk).2
    obtain ⟨C', T, N, hv, hl, hi, hini⟩ := NW_ok hnw
    obtain ⟨e1, ⟨ty0, h2, h3⟩, -, -⟩ := CLS2 ci C' T N hv
    have hszc : szc (0, ci) = N := by show (if (0 : Nat) = 0 then _ else _) = _; rw [if_pos rfl]; exact e1
    obtain ⟨r1, r2⟩ := room_sN (R := R) hT.2.2.2.2.1 hT.2.2.2.2.2 hk hszc hlim hR1 hR2
    intro T0 hT0 X
    have hz := sz_eq X hT0 hs0 hP hS hT.2.2.2.2.1
    have hKn := hE.1.1 ci _ hv
    suffices hW : W p l e R s m args below meth c H locs cells slots Q (F0 m pc ls (st.map (cv E))) from hW T0 hT0 X
    clear X hT0
    refine W.newcK (h := E.1 + h.1 + 1) (n := N) hx hb hown (hts _ hl) (hts _ hi) (hts _ hini) rfl hd r1 r2 hKn.2.1 hz (fun H1 kC hkC g1 z1 o1 => ?_)
    refine hn _ _ _ _ hf ls H1 locs _ _ (PT_sN hT hmd (by omega) hk hT.2.2.1 hszc (by omega) (fun q hq => o1 q (by omega)) ⟨(C', T, N), hv, (u_born ty0 hts (CLS1 ci C' T N hv) hKn hkC g1 h2).to (fun j hj => ?_)⟩)
    have hg := fL_get (E := E) (h := sN h) (c := h.1 + 1) (ci := ci) (k := j) (by rw [e1]; exact hj) rfl
    show _ = (fL E (sN h) (h.1 + 1) ci).getD j .null
    rw [List.getD_eq_getElem?_getD, hg]
    have hc := h3 j hj
    obtain ⟨n1, n2, n3⟩ := new_sN (h := h) j
    rw [← hc]
    show _ = fV E (sN h) (h.1 + 1) j (tcode (ty0 j))
    unfold fV
    rw [n1, n2, n3]
    have hne : tcode (ty0 j) = 0 ∨ tcode (ty0 j) = 1 ∨ tcode (ty0 j) = 2 ∨ tcode (ty0 j) = 3 := by
      have hall : ∀ ci', ci' < 13 → ∀ k', k' < (FTY.getD ci' []).length → (FTY.getD ci' []).getD k' 0 ≤ 3 := by decide +kernel
      have := hall ci (List.getElem?_eq_some_iff.mp hv).1 j (by rw [e1]; exact hj)
      rw [hc]
      omega
    cases hty : ty0 j <;> rw [hty] at hne <;> first | rfl | (simp [tcode] at hne; done)
  · cases hf
end Steps6
