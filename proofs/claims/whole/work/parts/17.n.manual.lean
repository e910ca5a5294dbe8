theorem dCI_0 : decode (mC 267) 0 = .ok (.iload_n 0, 1) := by decide +kernel
theorem dCI_1 : decode (mC 267) 1 = .ok (.iload_n 1, 1) := by decide +kernel
theorem dCI_2 : decode (mC 267) 2 = .ok (.getstatic 1053, 3) := by decide +kernel
theorem dCI_5 : decode (mC 267) 5 = .ok (.invokestatic 1059, 3) := by decide +kernel
theorem dCI_8 : decode (mC 267) 8 = .ok (.pop, 1) := by decide +kernel
theorem dCI_9 : decode (mC 267) 9 = .ok (.return_, 1) := by decide +kernel
theorem dPI_0 : decode (mC 275) 0 = .ok (.iload_n 0, 1) := by decide +kernel
theorem dPI_1 : decode (mC 275) 1 = .ok (.ifCond .lt 8, 3) := by decide +kernel
theorem dPI_4 : decode (mC 275) 4 = .ok (.iload_n 0, 1) := by decide +kernel
theorem dPI_5 : decode (mC 275) 5 = .ok (.iload_n 1, 1) := by decide +kernel
theorem dPI_6 : decode (mC 275) 6 = .ok (.if_icmp .lt 10, 3) := by decide +kernel
theorem dPI_16 : decode (mC 275) 16 = .ok (.iload_n 0, 1) := by decide +kernel
theorem dPI_17 : decode (mC 275) 17 = .ok (.ireturn, 1) := by decide +kernel
theorem mx_CI : mL 267 = 2 ∧ mR 267 = none ∧ mK 267 = 0 ∧ (mN 267).cls = cN 14 := by decide +kernel
theorem mx_PI : mL 275 = 3 ∧ mR 275 = some .int ∧ mK 275 = 0 := by decide +kernel
theorem w_sio : lw_tbl[795]? = some (.fieldLink "java/lang/String" 1053 "jdk/internal/util/Preconditions" "SIOOBE_FORMATTER" "Ljava/util/function/BiFunction;") := by decide +kernel
theorem w_chk : lw_tbl[797]? = some (.methodLink "java/lang/String" 1059 (mN 275)) := by decide +kernel
theorem c_pre {l : Launch} (i n : Int32) (v : Value) (hv : v.category = 1) (h0 : 0 ≤ i) (h1 : i < n) : Met l (mN 275) (wsM 275) ({ frames := 1, cells := 0, slots := 0, locals := 40 } : Room) (va_Pc [.int i, .int n, v] (fun _ => True)) (fun _ st oc t => oc = .returned (some (.int i)) ∧ t.heap = st.heap) 0 0 (fun _ => False) := by
  obtain ⟨m1, m2, m3⟩ := mx_PI
  refine met_ofWF (cc := mC 275) (maxL := mL 275) (ret := mR 275) (ws' := TB) pl_275 rfl ?_
  intro p e s m args below meth c s₁ B hml hw
  obtain ⟨rfl, -⟩ := hw
  have hx := B.exec
  have hb := B.bytes
  have hr : meth.sig.returnType = some .int := B.returns.trans m2
  have hlocks := B.notSynchronized
  have hl := lv_entry [.int i, .int n, v] (n := mL 275) (by rw [m1]; unfold lg_sl; simp only [List.flatMap_cons, List.flatMap_nil, hv]; exact Nat.le_of_ble_eq_true rfl)
  rw [lg_entry_eq]
  generalize (lg_sl ([.int i, .int n, v]) ++ List.replicate (mL 275 - (lg_sl ([.int i, .int n, v])).length) Slot.unset).toArray = ls at hl ⊢
  refine lv_iload_n hx hb dPI_0 rfl (lv_at hl 0 rfl) ?_
  refine lv_if_lt (tgt := 9) hx hb dPI_1 (by decide) (fun z => absurd z (le_nlt h0)) (fun _ => ?_)
  refine lv_iload_n hx hb dPI_4 rfl (lv_at hl 0 rfl) ?_
  refine lv_iload_n hx hb dPI_5 rfl (lv_at hl 1 rfl) ?_
  refine lv_icmp_lt (tgt := 16) hx hb dPI_6 (by decide) (fun _ => ?_) (fun z => absurd h1 z)
  refine lv_iload_n hx hb dPI_16 rfl (lv_at hl 0 rfl) ?_
  exact W.iret hx hb hr (fun t ht _ => ⟨rfl, ht⟩) (fun q hq => by cases hq) dPI_17 hlocks
def f_String_checkIndex (N : Nat) (a0 : Int32) (a1 : Int32) (h : MH) : Option (MH) := if 0 ≤ a0 then (if a0 < a1 then some h else none) else none
theorem s_String_checkIndex {l : Launch} {E : EV} {N : Nat} {as : List MV} {h : MH} {r : MH} (hf : w_String_checkIndex (f_String_checkIndex N) as h = some r) : SndM l E false 1 267 as h none r := by
  unfold w_String_checkIndex at hf
  split at hf
  · rename_i a0 a1
    unfold f_String_checkIndex at hf
    split at hf
    · rename_i h0
      split at hf
      · rename_i h1
        cases hf
        obtain ⟨m1, m2, m3, m4⟩ := mx_CI
        refine ⟨(fun z => by cases z), ⟨(fun z => by rw [m3] at z; cases z), (fun z => by rw [m3] at z; cases z)⟩, TB_in _ cw_267 rfl, met_ofWF (cc := mC 267) (maxL := mL 267) (ret := mR 267) (ws' := TB) pl_267 rfl ?_⟩
        intro p e s m args below meth c s₁ B hml hv
        obtain ⟨rfl, hsz, hP, hE, has, hfin⟩ := hv
        have hx := B.exec
        have hb := B.bytes
        have hr : meth.sig.returnType = none := B.returns.trans m2
        have hlocks := B.notSynchronized
        have hts : ∀ w ∈ TB, w.before (([Sum.inl a0, Sum.inl a1].map (cv E)).toArray) s = true := fun w hw => atoms_spec (ws := wsM 267) B.pre w (List.mem_cons_of_mem _ hw)
        have hown : s.vm.findClass "java/lang/String" = some m.cls := by
          have := findClass_of_methodNamed B.named
          rw [m4] at this
          exact this
        have hl := lv_entry ([Sum.inl a0, Sum.inl a1].map (cv E)) (n := mL 267) (by rw [m1]; exact Nat.le_of_ble_eq_true rfl)
        rw [lg_entry_eq]
        generalize (lg_sl ([Sum.inl a0, Sum.inl a1].map (cv E)) ++ List.replicate (mL 267 - (lg_sl ([Sum.inl a0, Sum.inl a1].map (cv E))).length) Slot.unset).toArray = ls at hl ⊢
        have hS : va_S (fun q => E.1 < q) s.heap s.heap [] := va_S.rf
        refine lv_iload_n (x := a0) hx hb dCI_0 rfl (lv_at hl 0 rfl) ?_
        refine lv_iload_n (x := a1) hx hb dCI_1 rfl (lv_at hl 1 rfl) ?_
        have hG : GoodIn TB (wsM 275) := fun w hw => by
          rcases List.mem_cons.mp hw with rfl | hw
          · exact ⟨TB_in _ cw_275 rfl, (TB_good _ (TB_in _ cw_275 rfl)).2⟩
          · exact TB_good w hw
        obtain ⟨k1, -, -, k4, k5, k6, k7, k8, -⟩ := MT_ok (j := 275) (by decide +kernel) (by decide)
        have hpar : (parseMethodDescriptor (mN 275).desc).map (fun d => d.parameters.length) = some 3 := by decide +kernel
        have fin : ∀ v : Value, v.category = 1 → W p l e (headSpec (wsM 267) (rmM false 1 h h)).room s m (([Sum.inl a0, Sum.inl a1].map (cv E)).toArray) below meth c s.heap [] 0 0 (MQ below (QcM E false none h) (([Sum.inl a0, Sum.inl a1].map (cv E)).toArray) s (mcM false h.1 h.1) (mcM false (ss h.1) (ss h.1)) (fun q => E.1 < q)) (F0 m 5 ls [v, .int a1, .int a0]) := by
          intro v hv T hT X
          have hrun := va_runS (g := F0 m 5 ls [v, .int a1, .int a0]) (As := [.int a0, .int a1, v]) (rest := []) (n := 3) (cc := mC 267) (own := "java/lang/String") (index := 1059) (R := (headSpec (wsM 267) (rmM false 1 h h)).room) (H := s.heap) (locs := []) (cells := 0) (slots := 0) (e := e) (below := below) (meth := meth) ⟨hx, hb, hml, hown, hts⟩ (c_pre (l := l) a0 a1 v hv h0 h1) ⟨callB_of 3 hts hG rfl rfl rfl (hts _ k4) (hts _ (TB_in _ w_chk rfl)) ⟨k6, k7, hpar⟩ ⟨Nat.le_refl 2, by show 8 + (mL 275 + 11) + 40 ≤ 100; rw [mx_PI.1]; decide⟩, hts _ (k1 mx_PI.2.2)⟩ ⟨fun a U g mk q => ⟨q.1, trivial⟩, fun U hU hW => ⟨rfl, trivial⟩⟩ rfl rfl hl.1 rfl (lv_room (Nat.zero_le 8)) dCI_5 ⟨Nat.zero_le _, Nat.zero_le _⟩
          obtain ⟨v', st₀, t, T', L, g0, X', hL, e1, e2, ⟨hv', hz⟩, st1⟩ := hrun T hT X
          cases hv'
          have hL0 : L = [] := by
            cases L with
            | nil => rfl
            | cons a b => exact absurd (hL a List.mem_cons_self) id
          subst hL0
          have hW : W p l e (headSpec (wsM 267) (rmM false 1 h h)).room s m (([Sum.inl a0, Sum.inl a1].map (cv E)).toArray) below meth c s.heap [] 0 0 (MQ below (QcM E false none h) (([Sum.inl a0, Sum.inl a1].map (cv E)).toArray) s 0 0 (fun q => E.1 < q)) (F0 m 8 ls [.int a0]) := by
            refine lv_pop hx hb dCI_8 rfl ?_
            exact W.vret hx hb hr (fun t ht _ => ⟨rfl, by rw [ht]; exact hP, hfin, (fun w hw => by cases hw), (by rw [ht]; exact Nat.le_refl _), fun q _ _ => by rw [ht]⟩) (fun q hq => by cases hq) dCI_9 hlocks
          obtain ⟨t2, b1, b2⟩ := hW T' (by rw [e1, hz, g0]) X'
          exact ⟨t2, st1 t2 b1, b2⟩
        rcases hE.2.2.2.2.2.2 with hZ | ⟨t, hZ⟩
        · exact va_gets hx hb hZ hS hown (hts _ (TB_in _ w_sio rfl)) (fun _ z => z) dCI_2 (fin .null rfl)
        · exact va_gets hx hb hZ hS hown (hts _ (TB_in _ w_sio rfl)) (fun _ z => z) dCI_2 (fin (.ref t) rfl)
      · cases hf
    · cases hf
  · cases hf
