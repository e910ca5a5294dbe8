
section Sound2
variable {p : Program} {l : Launch} {e : Env} {R : Room} {s : State} {m : MethodId} {args : Array Value} {below : List Frame} {meth : Method} {c : Code} {Q : State → Prop} {cc : ByteArray} {E : EV} {o : Option Nat} {md : Bool} {n0 nL rz lim dp : Nat} {RT : Type} {ret : Option MV → MH → Option RT} {next : Nat → ML → List MV → MH → Option RT} {r : RT} {pc : Nat} {lv : ML} {st : List MV} {h : MH} {C : MC} {own idx : Nat}
set_option maxHeartbeats 4000000 in
/-- ONE STEP of the small machine is one step of the machine -/
theorem stp_s (F : FRM p l R s m args meth c cc E o md n0 nL lim dp own C) (hret : RetOK p l e R s m args below meth c Q cc E o md n0 nL rz ret r) {w : RW} (hdec : decode cc pc = .ok (w.1, w.2.1)) (hok : aokR own md pc w = true) (hn : ∀ pc lv st h, next pc lv st h = some r → Gt p l e R s m args below meth c Q E o md n0 nL pc lv st h) (hf : stp C nL rz ret next w pc lv st h = some r) : Gt p l e R s m args below meth c Q E o md n0 nL pc lv st h := by
  obtain ⟨⟨hx, hb, hml, hE, hown, hts⟩, ⟨hs0, hC1, hC2, hC4, hscr⟩, ⟨hR1, hR2, hR3, hR4⟩, hini, -⟩ := id F
  obtain ⟨i, n, aux, vi, vj⟩ := w
  unfold stp at hf
  unfold aokR at hok
  cases i with
  | iconst n =>
    rw [Bool.and_eq_true] at hok
    have el := Nat.eq_of_beq_eq_true hok.1
    dsimp only at el
    subst el
    have ev := of_decide_eq_true hok.2
    exact xPushI_s (d := 1) (fun k => lv_iconst hx hb hdec ev k) hn hf
  | bipush n =>
    rw [Bool.and_eq_true] at hok
    have el := Nat.eq_of_beq_eq_true hok.1
    dsimp only at el
    subst el
    have ev := of_decide_eq_true hok.2
    exact xPushI_s (d := 2) (fun k => lv_bipush hx hb hdec ev k) hn hf
  | sipush n =>
    rw [Bool.and_eq_true] at hok
    have el := Nat.eq_of_beq_eq_true hok.1
    dsimp only at el
    subst el
    have ev := of_decide_eq_true hok.2
    exact xPushI_s (d := 3) (fun k => lv_sipush hx hb hdec ev k) hn hf
  | lconst n =>
    rw [Bool.and_eq_true] at hok
    have el := Nat.eq_of_beq_eq_true hok.1
    dsimp only at el
    subst el
    have ev := of_decide_eq_true hok.2
    exact xPushJ_s (d := 1) (fun k => lv_lconst hx hb hdec ev k) hn hf
  | ldc_w i =>
    rw [Bool.and_eq_true] at hok
    have el := Nat.eq_of_beq_eq_true hok.1
    dsimp only at el
    subst el
    exact xPushI_s (d := 3) (fun k => lv_ldcw hx hb hown (hts _ (CI_ok hok.2)) hdec k) hn hf
  | ldc2_w i =>
    rw [Bool.and_eq_true] at hok
    have el := Nat.eq_of_beq_eq_true hok.1
    dsimp only at el
    subst el
    exact xPushJ_s (d := 3) (fun k => lv_ldc2 hx hb hown (hts _ (CJ_ok hok.2)) hdec k) hn hf
  | getstatic i =>
    simp only [Bool.and_eq_true] at hok
    obtain ⟨⟨⟨el, e1⟩, e2⟩, e3⟩ := hok
    have el := Nat.eq_of_beq_eq_true el
    have e1 := Nat.eq_of_beq_eq_true e1
    have e2 := Nat.eq_of_beq_eq_true e2
    have e4 : vi = 1 := by simpa using e3
    clear e3
    try dsimp only at el
    subst el e1 e2 e4
    intro ls H locs cells slots hT
    exact va_gets hx hb hE.2.2.2.1 hT.2.2.2.1.2.1 hown (hts _ (TB_in _ w_cs rfl)) (fun _ z => z) hdec (hn _ _ _ _ hf _ _ _ _ _ (PT_st hT (okc trivial hT.2.2.1)))
  | ldc i =>
    rw [Bool.and_eq_true] at hok
    have el := Nat.eq_of_beq_eq_true hok.1
    dsimp only at el
    subst el
    replace hok := hok.2
    dsimp only at hf hok
    split at hf
    · rename_i k
      unfold inSR at hok
      rw [Bool.and_eq_true] at hok
      obtain ⟨h1, h2⟩ := hok
      obtain ⟨q, hq, h3⟩ := List.any_eq_true.mp h1
      simp only [Bool.and_eq_true, decide_eq_true_eq] at h3
      obtain ⟨⟨e1, e2⟩, e3⟩ := h3
      have e2 := Nat.eq_of_beq_eq_true e2
      have e3 := Nat.eq_of_beq_eq_true e3
      have hz := hE.2.2.1 q hq
      rw [e1, e2, e3] at hz
      have hk : k < jsB.length := by
        unfold Nat.blt at h2
        exact Nat.le_of_ble_eq_true h2
      intro ls H locs cells slots hT
      exact va_ldcS hx hb hown hz hdec (hn _ _ _ _ hf _ _ _ _ _ (PT_st hT (okc hk hT.2.2.1)))
    · rename_i hne
      split at hok
      · exact absurd rfl (hne _)
      · exact xPushI_s (d := 2) (fun k => lv_ldc hx hb hown (hts _ (CI_ok hok)) hdec k) hn hf
      · cases hok
  | iload i =>
    rw [Bool.and_eq_true] at hok
    have el := Nat.eq_of_beq_eq_true hok.1
    dsimp only at el
    subst el
    have ea := a1_ok hok.2
    dsimp only at hf ea
    rw [ea] at hf
    exact xLoad_s (t := 0) (d := 2) (fun _ => fun hl k => lv_iload hx hb hdec hl k) (fun z => absurd z (by decide)) (fun z => absurd z (by decide)) hn hf
  | iload_n i =>
    rw [Bool.and_eq_true] at hok
    have el := Nat.eq_of_beq_eq_true hok.1
    dsimp only at el
    subst el
    have ea := a1_ok hok.2
    dsimp only at hf ea
    rw [ea] at hf
    exact xLoad_s (t := 0) (d := 1) (fun _ => fun hl k => lv_iload_n hx hb hdec rfl hl k) (fun z => absurd z (by decide)) (fun z => absurd z (by decide)) hn hf
  | lload i =>
    rw [Bool.and_eq_true] at hok
    have el := Nat.eq_of_beq_eq_true hok.1
    dsimp only at el
    subst el
    have ea := a1_ok hok.2
    dsimp only at hf ea
    rw [ea] at hf
    exact xLoad_s (t := 1) (d := 2) (fun z => absurd z (by decide)) (fun _ => fun hl k => lv_lload hx hb hdec hl k) (fun z => absurd z (by decide)) hn hf
  | lload_n i =>
    rw [Bool.and_eq_true] at hok
    have el := Nat.eq_of_beq_eq_true hok.1
    dsimp only at el
    subst el
    have ea := a1_ok hok.2
    dsimp only at hf ea
    rw [ea] at hf
    exact xLoad_s (t := 1) (d := 1) (fun z => absurd z (by decide)) (fun _ => fun hl k => lv_lload_n hx hb hdec rfl hl k) (fun z => absurd z (by decide)) hn hf
  | aload i =>
    rw [Bool.and_eq_true] at hok
    have el := Nat.eq_of_beq_eq_true hok.1
    dsimp only at el
    subst el
    have ea := a1_ok hok.2
    dsimp only at hf ea
    rw [ea] at hf
    exact xLoad_s (t := 2) (d := 2) (fun z => absurd z (by decide)) (fun z => absurd z (by decide)) (fun _ => fun hl k => lv_aload hx hb hdec hl k) hn hf
  | aload_n i =>
    rw [Bool.and_eq_true] at hok
    have el := Nat.eq_of_beq_eq_true hok.1
    dsimp only at el
    subst el
    have ea := a1_ok hok.2
    dsimp only at hf ea
    rw [ea] at hf
    exact xLoad_s (t := 2) (d := 1) (fun z => absurd z (by decide)) (fun z => absurd z (by decide)) (fun _ => fun hl k => lv_aload_n hx hb hdec rfl hl k) hn hf
  | istore i =>
    rw [Bool.and_eq_true] at hok
    have el := Nat.eq_of_beq_eq_true hok.1
    dsimp only at el
    subst el
    have ea := a1_ok hok.2
    dsimp only at hf ea
    rw [ea] at hf
    exact xStore_s (t := 0) (d := 2) (fun _ hnl => fun hlv kk => lv_istore hx hb hdec hlv hnl rfl kk) (fun z => absurd z (by decide)) (fun z => absurd z (by decide)) hn hf
  | istore_n i =>
    rw [Bool.and_eq_true] at hok
    have el := Nat.eq_of_beq_eq_true hok.1
    dsimp only at el
    subst el
    have ea := a1_ok hok.2
    dsimp only at hf ea
    rw [ea] at hf
    exact xStore_s (t := 0) (d := 1) (fun _ hnl => fun hlv kk => lv_istore_n hx hb hdec rfl hlv hnl rfl kk) (fun z => absurd z (by decide)) (fun z => absurd z (by decide)) hn hf
  | lstore i =>
    rw [Bool.and_eq_true] at hok
    have el := Nat.eq_of_beq_eq_true hok.1
    dsimp only at el
    subst el
    have ea := a1_ok hok.2
    dsimp only at hf ea
    rw [ea] at hf
    exact xStore_s (t := 1) (d := 2) (fun z => absurd z (by decide)) (fun _ hnl => fun hlv kk => lv_lstore hx hb hdec hlv hnl rfl kk) (fun z => absurd z (by decide)) hn hf
  | lstore_n i =>
    rw [Bool.and_eq_true] at hok
    have el := Nat.eq_of_beq_eq_true hok.1
    dsimp only at el
    subst el
    have ea := a1_ok hok.2
    dsimp only at hf ea
    rw [ea] at hf
    exact xStore_s (t := 1) (d := 1) (fun z => absurd z (by decide)) (fun _ hnl => fun hlv kk => lv_lstore_n hx hb hdec rfl hlv hnl rfl kk) (fun z => absurd z (by decide)) hn hf
  | astore i =>
    rw [Bool.and_eq_true] at hok
    have el := Nat.eq_of_beq_eq_true hok.1
    dsimp only at el
    subst el
    have ea := a1_ok hok.2
    dsimp only at hf ea
    rw [ea] at hf
    exact xStore_s (t := 2) (d := 2) (fun z => absurd z (by decide)) (fun z => absurd z (by decide)) (fun _ hnl => fun hlv kk => lv_astore hx hb hdec hlv hnl rfl kk) hn hf
  | astore_n i =>
    rw [Bool.and_eq_true] at hok
    have el := Nat.eq_of_beq_eq_true hok.1
    dsimp only at el
    subst el
    have ea := a1_ok hok.2
    dsimp only at hf ea
    rw [ea] at hf
    exact xStore_s (t := 2) (d := 1) (fun z => absurd z (by decide)) (fun z => absurd z (by decide)) (fun _ hnl => fun hlv kk => lv_astore_n hx hb hdec rfl hlv hnl rfl kk) hn hf
  | iinc i n =>
    simp only [Bool.and_eq_true] at hok
    obtain ⟨⟨el, e1⟩, e2⟩ := hok
    have el := Nat.eq_of_beq_eq_true el
    have ea := a1_ok e1
    have ev := of_decide_eq_true e2
    dsimp only at el hf ea ev
    subst el
    rw [ea] at hf
    exact xIinc_s (d := 3) (fun hnl => fun hk hlv kk => lv_iinc hx hb hdec hlv hk (by rw [ev]) hnl rfl kk) hn hf
  | iadd =>
    have el := Nat.eq_of_beq_eq_true hok
    dsimp only at el
    subst el
    exact xI2_s (fun k => lv_iadd hx hb hdec k) hn hf
  | isub =>
    have el := Nat.eq_of_beq_eq_true hok
    dsimp only at el
    subst el
    exact xI2_s (fun k => lv_isub hx hb hdec k) hn hf
  | imul =>
    have el := Nat.eq_of_beq_eq_true hok
    dsimp only at el
    subst el
    exact xI2_s (fun k => lv_imul hx hb hdec k) hn hf
  | iand =>
    have el := Nat.eq_of_beq_eq_true hok
    dsimp only at el
    subst el
    exact xI2_s (fun k => lv_iand hx hb hdec k) hn hf
  | ior =>
    have el := Nat.eq_of_beq_eq_true hok
    dsimp only at el
    subst el
    exact xI2_s (fun k => lv_ior hx hb hdec k) hn hf
  | ixor =>
    have el := Nat.eq_of_beq_eq_true hok
    dsimp only at el
    subst el
    exact xI2_s (fun k => lv_ixor hx hb hdec k) hn hf
  | ishl =>
    have el := Nat.eq_of_beq_eq_true hok
    dsimp only at el
    subst el
    exact xI2_s (fun k => lv_ishl hx hb hdec k) hn hf
  | ishr =>
    have el := Nat.eq_of_beq_eq_true hok
    dsimp only at el
    subst el
    exact xI2_s (fun k => lv_ishr hx hb hdec k) hn hf
  | iushr =>
    have el := Nat.eq_of_beq_eq_true hok
    dsimp only at el
    subst el
    exact xI2_s (fun k => lv_iushr hx hb hdec rfl k) hn hf
  | idiv =>
    have el := Nat.eq_of_beq_eq_true hok
    dsimp only at el
    subst el
    exact xI2d_s (fun z k => lv_idiv hx hb hdec z k) hn hf
  | irem =>
    have el := Nat.eq_of_beq_eq_true hok
    dsimp only at el
    subst el
    exact xI2d_s (fun z k => lv_irem hx hb hdec z k) hn hf
  | ineg =>
    have el := Nat.eq_of_beq_eq_true hok
    dsimp only at el
    subst el
    exact xI1_s (fun k => lv_ineg hx hb hdec k) hn hf
  | i2b =>
    have el := Nat.eq_of_beq_eq_true hok
    dsimp only at el
    subst el
    exact xI1_s (fun k => lv_i2b hx hb hdec rfl k) hn hf
  | i2s =>
    have el := Nat.eq_of_beq_eq_true hok
    dsimp only at el
    subst el
    exact xI1_s (fun k => lv_i2s hx hb hdec rfl k) hn hf
  | i2c =>
    have el := Nat.eq_of_beq_eq_true hok
    dsimp only at el
    subst el
    exact xI1_s (fun k => lv_i2c hx hb hdec rfl k) hn hf
  | ladd =>
    have el := Nat.eq_of_beq_eq_true hok
    dsimp only at el
    subst el
    exact xJ2_s (fun k => lv_ladd hx hb hdec k) hn hf
  | lsub =>
    have el := Nat.eq_of_beq_eq_true hok
    dsimp only at el
    subst el
    exact xJ2_s (fun k => lv_lsub hx hb hdec k) hn hf
  | lmul =>
    have el := Nat.eq_of_beq_eq_true hok
    dsimp only at el
    subst el
    exact xJ2_s (fun k => lv_lmul hx hb hdec k) hn hf
  | land =>
    have el := Nat.eq_of_beq_eq_true hok
    dsimp only at el
    subst el
    exact xJ2_s (fun k => lv_land hx hb hdec k) hn hf
  | lor =>
    have el := Nat.eq_of_beq_eq_true hok
    dsimp only at el
    subst el
    exact xJ2_s (fun k => lv_lor hx hb hdec k) hn hf
  | ldiv =>
    have el := Nat.eq_of_beq_eq_true hok
    dsimp only at el
    subst el
    exact xJ2d_s (fun z k => lv_ldiv hx hb hdec z k) hn hf
  | lrem =>
    have el := Nat.eq_of_beq_eq_true hok
    dsimp only at el
    subst el
    exact xJ2d_s (fun z k => lv_lrem hx hb hdec z k) hn hf
  | lshl =>
    have el := Nat.eq_of_beq_eq_true hok
    dsimp only at el
    subst el
    exact xJs_s (fun k => lv_lshl hx hb hdec rfl k) hn hf
  | lshr =>
    have el := Nat.eq_of_beq_eq_true hok
    dsimp only at el
    subst el
    exact xJs_s (fun k => lv_lshr hx hb hdec rfl k) hn hf
  | lushr =>
    have el := Nat.eq_of_beq_eq_true hok
    dsimp only at el
    subst el
    exact xJs_s (fun k => lv_lushr hx hb hdec rfl k) hn hf
  | i2l =>
    have el := Nat.eq_of_beq_eq_true hok
    dsimp only at el
    subst el
    exact xI2l_s hx hb hdec hn hf
  | l2i =>
    have el := Nat.eq_of_beq_eq_true hok
    dsimp only at el
    subst el
    exact xL2i_s hx hb hdec hn hf
  | lneg =>
    have el := Nat.eq_of_beq_eq_true hok
    dsimp only at el
    subst el
    exact xLneg_s hx hb hdec hn hf
  | lcmp =>
    have el := Nat.eq_of_beq_eq_true hok
    dsimp only at el
    subst el
    exact xLcmp_s hx hb hdec hn hf
  | dup =>
    have el := Nat.eq_of_beq_eq_true hok
    dsimp only at el
    subst el
    exact xDup_s hx hb hdec hn hf
  | dup2 =>
    have el := Nat.eq_of_beq_eq_true hok
    dsimp only at el
    subst el
    exact xDup2_s hx hb hdec hn hf
  | pop =>
    have el := Nat.eq_of_beq_eq_true hok
    dsimp only at el
    subst el
    exact xPop_s hx hb hdec hn hf
  | if_icmp cd off =>
    rw [Bool.and_eq_true] at hok
    have el := Nat.eq_of_beq_eq_true hok.1
    dsimp only at el
    subst el
    exact xIc_s hx hb hdec (aT_ok hok.2) hn hf
  | ifCond cd off =>
    rw [Bool.and_eq_true] at hok
    have el := Nat.eq_of_beq_eq_true hok.1
    dsimp only at el
    subst el
    exact xIf_s hx hb hdec (aT_ok hok.2) hn hf
  | goto off =>
    rw [Bool.and_eq_true] at hok
    have el := Nat.eq_of_beq_eq_true hok.1
    dsimp only at el
    subst el
    intro ls H locs cells slots hT
    exact lv_goto hx hb hdec (aT_ok hok.2) (hn _ _ _ _ hf _ _ _ _ _ hT)
  | tableswitch d lo hi offs =>
    exact xTab_s hx hb hdec hok hn hf
  | iaload =>
    have el := Nat.eq_of_beq_eq_true hok
    dsimp only at el
    subst el
    exact xAld_s (t := 1) hx hb hE hC1 hC2 hC4 hscr hdec hn hf
  | laload =>
    have el := Nat.eq_of_beq_eq_true hok
    dsimp only at el
    subst el
    exact xAld_s (t := 2) hx hb hE hC1 hC2 hC4 hscr hdec hn hf
  | baload =>
    have el := Nat.eq_of_beq_eq_true hok
    dsimp only at el
    subst el
    exact xAld_s (t := 3) hx hb hE hC1 hC2 hC4 hscr hdec hn hf
  | aaload =>
    have el := Nat.eq_of_beq_eq_true hok
    dsimp only at el
    subst el
    exact xAld_s (t := 5) hx hb hE hC1 hC2 hC4 hscr hdec hn hf
  | iastore =>
    have el := Nat.eq_of_beq_eq_true hok
    dsimp only at el
    subst el
    exact xAst_s (t := 1) hx hb hE (fun z => absurd z (by decide)) hdec hn hf
  | lastore =>
    have el := Nat.eq_of_beq_eq_true hok
    dsimp only at el
    subst el
    exact xAst_s (t := 2) hx hb hE (fun z => absurd z (by decide)) hdec hn hf
  | bastore =>
    have el := Nat.eq_of_beq_eq_true hok
    dsimp only at el
    subst el
    exact xAst_s (t := 3) hx hb hE (fun z => absurd z (by decide)) hdec hn hf
  | aastore =>
    rw [Bool.and_eq_true] at hok
    have el := Nat.eq_of_beq_eq_true hok.1
    dsimp only at el
    subst el
    exact xAst_s (t := 5) hx hb hE (fun _ => hok.2) hdec hn hf
  | arraylength =>
    have el := Nat.eq_of_beq_eq_true hok
    dsimp only at el
    subst el
    exact xLen_s hx hb hE hC4 hscr hdec hn hf
  | getfield i =>
    rw [Bool.and_eq_true] at hok
    have el := Nat.eq_of_beq_eq_true hok.1
    dsimp only at el
    subst el
    exact xGet_s hx hb hE hown hts hC1 hC2 hok.2 hdec hn hf
  | putfield i =>
    rw [Bool.and_eq_true] at hok
    have el := Nat.eq_of_beq_eq_true hok.1
    dsimp only at el
    subst el
    exact xPut_s hx hb hE hown hts hC2 hini hok.2 hdec hn hf
  | new i =>
    rw [Bool.and_eq_true] at hok
    have el := Nat.eq_of_beq_eq_true hok.1
    dsimp only at el
    subst el
    replace hok := hok.2
    dsimp only at hf hok
    split at hf
    · exact xNew_s hx hb hE hown hts hs0 hC1 hC2 hR1 hR2 hok hdec hn hf
    · cases hf
  | newarray k =>
    simp only [Bool.and_eq_true] at hok
    obtain ⟨⟨el, e1⟩, e2⟩ := hok
    have el := Nat.eq_of_beq_eq_true el
    dsimp only at el hf e1
    subst el
    unfold a1 at e1
    split at e1
    · rename_i kd
      have e1 := Nat.eq_of_beq_eq_true e1
      subst e1
      exact xNewA_s hx hb hE hts hs0 hC1 hC2 hR1 hR2 (fun z => by rw [z] at e2; simp at e2) hdec hn hf
    · cases e1
  | anewarray i =>
    rw [Bool.and_eq_true] at hok
    have el := Nat.eq_of_beq_eq_true hok.1
    dsimp only at el
    subst el
    exact xNewQ_s hx hb hE hown hts hs0 hC1 hC2 hR1 hR2 hok.2 hdec hn hf
  | invokevirtual i =>
    rw [Bool.and_eq_true] at hok
    have el := Nat.eq_of_beq_eq_true hok.1
    dsimp only at el
    subst el
    exact xCall_s (g := 0) F hok.2 hdec hn hf
  | invokestatic i =>
    rw [Bool.and_eq_true] at hok
    have el := Nat.eq_of_beq_eq_true hok.1
    dsimp only at el
    subst el
    replace hok := hok.2
    dsimp only at hf hok
    split at hf
    · exact xCopy_s hx hb hml hE hown hts (by omega) (by omega) hok hdec hn hf
    · rename_i hne
      split at hok
      · exact absurd rfl hne
      · exact xCall_s (g := 1) F hok hdec hn hf
  | invokespecial i =>
    rw [Bool.and_eq_true] at hok
    have el := Nat.eq_of_beq_eq_true hok.1
    dsimp only at el
    subst el
    replace hok := hok.2
    dsimp only at hf hok
    split at hf
    · exact xObj_s hx hb hml hown hts (by omega) (by omega) hok hdec hn hf
    · rename_i hne
      split at hok
      · exact absurd rfl hne
      · exact xCall_s (g := 2) F hok hdec hn hf
  | ireturn =>
    have el := Nat.eq_of_beq_eq_true hok
    dsimp only at el
    subst el
    unfold xRetI at hf
    dsimp only at hf
    split at hf
    · split at hf
      · rename_i hz
        exact hret _ _ _ (some (.inl _)) hf ⟨hdec, hz⟩
      · cases hf
    · cases hf
  | lreturn =>
    have el := Nat.eq_of_beq_eq_true hok
    dsimp only at el
    subst el
    dsimp only at hf
    split at hf
    · exact hret _ _ _ (some (.inr (.inl _))) hf hdec
    · cases hf
  | areturn =>
    have el := Nat.eq_of_beq_eq_true hok
    dsimp only at el
    subst el
    dsimp only at hf
    split at hf
    · exact hret _ _ _ (some (.inr (.inr _))) hf hdec
    · cases hf
  | return_ =>
    have el := Nat.eq_of_beq_eq_true hok
    dsimp only at el
    subst el
    dsimp only at hf
    split at hf
    · exact hret _ _ _ (none) hf hdec
    · cases hf
  | _ => cases hok
theorem seg_s {tab : List (List (Option RW))} {cut : List Nat} {cont : Nat → ML → List MV → MH → Option RT} (F : FRM p l R s m args meth c cc E o md n0 nL lim dp own C) (hret : RetOK p l e R s m args below meth c Q cc E o md n0 nL rz ret r) (htab : ∀ pc w, rowAt tab pc = some w → decode cc pc = .ok (w.1, w.2.1) ∧ aokR own md pc w = true) (hcont : ∀ pc lv st h, cont pc lv st h = some r → Gt p l e R s m args below meth c Q E o md n0 nL pc lv st h) : ∀ (k : Nat) (b : Bool) (pc : Nat) (lv : ML) (st : List MV) (h : MH), seg C nL rz ret tab cut cont k b pc lv st h = some r → Gt p l e R s m args below meth c Q E o md n0 nL pc lv st h
  | 0, _, _, _, _, _, hf => by
    rw [seg] at hf
    cases hf
  | k + 1, b, pc, lv, st, h, hf => by
    rw [seg] at hf
    split at hf
    · exact hcont _ _ _ _ hf
    · split at hf
      · rename_i w hw
        obtain ⟨h1, h2⟩ := htab pc w hw
        exact stp_s F hret h1 h2 (fun pc lv st h hf => seg_s F hret htab hcont k false pc lv st h hf) hf
      · cases hf
/-- fewer listed locals -/
theorem Gt_sub {lv' : ML} (hs : ∀ q ∈ lv', q ∈ lv) (hG : Gt p l e R s m args below meth c Q E o md n0 nL pc lv' st h) : Gt p l e R s m args below meth c Q E o md n0 nL pc lv st h := by
  intro ls H locs cells slots hT
  refine hG ls H locs cells slots ⟨⟨hT.1.1, hT.1.2.1, fun q hq => ?_⟩, fun q hq => hT.2.1 q (hs q hq), hT.2.2⟩
  obtain ⟨q', h1, h2⟩ := List.mem_map.mp hq
  exact hT.1.2.2 q (List.mem_map.mpr ⟨q', hs q' h1, h2⟩)
/-- the cuts' functions, all together -/
theorem cuts_s {tab : List (List (Option RW))} {cut : List Nat} {K M : Nat} {D B : Nat → Nat → ML → List MV → MH → Option RT} (F : FRM p l R s m args meth c cc E o md n0 nL lim dp own C) (hret : RetOK p l e R s m args below meth c Q cc E o md n0 nL rz ret r) (htab : ∀ pc w, rowAt tab pc = some w → decode cc pc = .ok (w.1, w.2.1) ∧ aokR own md pc w = true)
    (hM : ∀ n pc lv st h, D n pc lv st h = some r → pc < M) (hB : ∀ n pc lv st h, B n pc lv st h = some r → ∃ k, n = k + 1 ∧ D k pc lv st h = some r)
    (hD : ∀ n pc lv st h, D n pc lv st h = some r → ∃ lv', (∀ q ∈ lv', q ∈ lv) ∧ seg C nL rz ret tab cut (fun q lv st h => match Nat.ble (pc + 1) q with
      | true => D n q lv st h
      | false => B n q lv st h) K true pc lv' st h = some r) : ∀ n pc lv st h, D n pc lv st h = some r → Gt p l e R s m args below meth c Q E o md n0 nL pc lv st h := by
  intro n
  induction n with
  | zero =>
    have key : ∀ j pc, M - pc ≤ j → ∀ lv st h, D 0 pc lv st h = some r → Gt p l e R s m args below meth c Q E o md n0 nL pc lv st h := by
      intro j
      induction j with
      | zero =>
        intro pc hj lv st h hf
        have := hM _ _ _ _ _ hf
        omega
      | succ j ih =>
        intro pc hj lv st h hf
        obtain ⟨lv', h1, h2⟩ := hD _ _ _ _ _ hf
        refine Gt_sub h1 (seg_s F hret htab (fun q lv st h hc => ?_) K true pc lv' st h h2)
        split at hc
        · rename_i hq
          have hq := Nat.le_of_ble_eq_true hq
          have := hM _ _ _ _ _ hf
          exact ih q (by omega) lv st h hc
        · obtain ⟨k, hk, -⟩ := hB _ _ _ _ _ hc
          cases hk
    intro pc lv st h hf
    exact key (M - pc) pc (Nat.le_refl _) lv st h hf
  | succ n ihn =>
    have key : ∀ j pc, M - pc ≤ j → ∀ lv st h, D (n + 1) pc lv st h = some r → Gt p l e R s m args below meth c Q E o md n0 nL pc lv st h := by
      intro j
      induction j with
      | zero =>
        intro pc hj lv st h hf
        have := hM _ _ _ _ _ hf
        omega
      | succ j ih =>
        intro pc hj lv st h hf
        obtain ⟨lv', h1, h2⟩ := hD _ _ _ _ _ hf
        refine Gt_sub h1 (seg_s F hret htab (fun q lv st h hc => ?_) K true pc lv' st h h2)
        split at hc
        · rename_i hq
          have hq := Nat.le_of_ble_eq_true hq
          have := hM _ _ _ _ _ hf
          exact ih q (by omega) lv st h hc
        · obtain ⟨k, hk, hc2⟩ := hB _ _ _ _ _ hc
          cases hk
          exact ihn _ _ _ _ hc2
    intro pc lv st h hf
    exact key (M - pc) pc (Nat.le_refl _) lv st h hf
end Sound2
