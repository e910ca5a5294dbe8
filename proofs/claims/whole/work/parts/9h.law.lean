
/-! THE LAW: from its entry to its end -/
section LawS
variable {p : Program} {l : Launch} {e : Env} {R : Room} {s : State} {m : MethodId} {args : Array Value} {below : List Frame} {meth : Method} {c : Code} {Q : State → Prop} {cc : ByteArray} {E : EV} {o : Option Nat} {n0 nL lim dp : Nat} {pc : Nat} {lv : ML} {st : List MV} {h : MH} {own idx : Nat}
abbrev NX : Type := Nat × ML × List MV × MH
def nxF : Nat → ML → List MV → MH → Option NX := fun a b c d => some (a, b, c, d)
theorem nxG {md : Bool} {pc' : Nat} {lv' : ML} {st' : List MV} {h' : MH} (g : Gt p l e R s m args below meth c Q E o md n0 nL pc' lv' st' h') : ∀ pc lv st h, nxF pc lv st h = some (pc', lv', st', h') → Gt p l e R s m args below meth c Q E o md n0 nL pc lv st h := fun pc lv st h z => by
  unfold nxF at z
  cases z
  exact g
/-- a call while all is still being made -/
theorem callT {kd j dp' : Nat} {as : List MV} {v : Option MV} {h' : MH} (hx : p.tables.exec = Jvm.exec) (hb : c.code = cc) (hml : c.maxLocals = nL) (hE : EnvOK E s) (hown : s.vm.findClass (cN own) = some m.cls) (hts : ∀ w ∈ TB, w.before args s = true) (hs0 : s.heap.size = E.1 + n0 + 1) (hR1 : lim ≤ R.cells + n0) (hR2 : ss lim ≤ R.slots + ss n0) (hR3 : dp + 1 ≤ R.frames) (hR4 : 60 * dp + 40 ≤ R.locals) (hcl : inCL own idx kd j = true) (h276 : j ≠ 276) (hdp : dp' + 1 ≤ dp) (hlim : h'.1 ≤ lim) (hM : SndM l E true dp' j as h v h') (hlen : as.length = mA j)
    (hd : decode cc pc = .ok (if kd ≤ 1 ∨ kd = 6 then .invokevirtual idx else if kd ≤ 3 then .invokestatic idx else .invokespecial idx, 3)) (hw : wd st ≤ 8) (h7 : no7 as = true) (hnx : Gt p l e R s m args below meth c Q E o true n0 nL (pc + 3) lv (v.toList ++ st) h') : Gt p l e R s m args below meth c Q E o true n0 nL pc lv (as.reverse ++ st) h := by
  intro ls H locs cells slots hT
  obtain ⟨hP, hS, hfin⟩ := hT.2.2.2.1
  have has : ∀ w ∈ as, okv none h w := fun w hw => okv_no7 (hT.2.2.1 w (List.mem_append_left _ (List.mem_reverse.mpr hw))) (by
    have := List.all_eq_true.mp h7 w hw
    simpa using this)
  have hr : ∀ w ∈ st, okv o h w := fun w hw => hT.2.2.1 w (List.mem_append_right _ hw)
  intro T hT0 X
  have hz := sz_eq X hT0 hs0 hP hS hT.2.2.2.2.1
  have hrun := callRun (e := e) (below := below) (meth := meth) (lim := lim) hx hb hml hE hown hts hR1 hR2 hR3 hR4 hcl h276 hdp (fun _ => hlim) hM hlen (fun z => by cases z) hd hT hw has hz
  refine runM hrun hS (fun H1 locs1 hP1 hf1 hk1 hS1 => ?_) T hT0 X
  have hmono : h.1 ≤ h'.1 := hM.1 rfl
  have hsm := ss_mono hmono
  have hG := hnx ls H1 locs1 (cells + mcM true h.1 h'.1) (slots + mcM true (ss h.1) (ss h'.1)) ⟨hT.1, fun q hq => okv_mono hmono (hT.2.1 q hq), fun w hw => ?_, ⟨hP1, hS1, hf1⟩, ?_, ?_⟩
  · have he : (v.map (cv E)).toList ++ st.map (cv E) = (v.toList ++ st).map (cv E) := by cases v <;> rfl
    rw [he]
    exact hG
  · rcases List.mem_append.mp hw with hw | hw
    · cases v with
      | none => cases hw
      | some u =>
        rw [Option.toList_some, List.mem_singleton] at hw
        rw [hw]
        exact okv_none (hk1 u rfl)
    · exact okv_mono hmono (hr w hw)
  · have := hT.2.2.2.2.1
    unfold mcM
    rw [if_pos rfl]
    omega
  · have := hT.2.2.2.2.2
    unfold mcM
    rw [if_pos rfl]
    omega
theorem Gt_md (hfin : FinOK h) (hG : Gt p l e R s m args below meth c Q E o false n0 nL pc lv st h) : Gt p l e R s m args below meth c Q E o true n0 nL pc lv st h := fun ls H locs cells slots hT => hG ls H locs cells slots ⟨hT.1, hT.2.1, hT.2.2.1, ⟨hT.2.2.2.1.1, hT.2.2.2.1.2.1, fun _ => hfin⟩, hT.2.2.2.2⟩
end LawS
def CNW : MC := (KDL.take (115 + 1), true, (fun _ => 0), jsB, (fun _ _ _ => none), (fun _ _ _ => none), (fun _ _ _ => none), (fun _ _ _ => none))
theorem ss115 : ss 115 ≤ 7302249 := by decide +kernel
theorem rm1 : 115 ≤ room_1.cells + 0 ∧ ss 115 ≤ room_1.slots + ss 0 ∧ 34 + 1 ≤ room_1.frames ∧ 60 * 34 + 40 ≤ room_1.locals := by decide +kernel
theorem lawRet {p : Program} {l : Launch} {e : Env} {s : State} {m : MethodId} {below : List Frame} {meth : Method} {c : Code} {E : EV} {o : Option Nat} {b : Nat} {h' : MH} (hx : p.tables.exec = Jvm.exec) (hb : c.code = code) (hr : meth.sig.returnType = ret) (hlk : meth.locks = false) (hs0 : s.heap.size = E.1 + 0 + 1) : RetOK p l e room_1 s m #[Value.ref b] below meth c (lw_Z below #[Value.ref b] s) code E o false 0 4 1 rI ((1 : Int32), h') := by
  intro pc lv h v hv hd ls H locs cells slots hT
  obtain ⟨rfl, rfl⟩ := rI_eq v h hv
  obtain ⟨hP, hS, hfin⟩ := hT.2.2.2.1
  have e1 := hT.2.2.2.2.1
  have e2 := hT.2.2.2.2.2
  have e3 := (hfin rfl).1
  have e4 := ss115
  rw [← e3] at e4
  refine va_forget (fun q hq => ?_) (W.widen (k := 600000) (n := 7302249) (by omega) (by omega) ?_)
  · have := hS.2.2 q hq
    omega
  · exact lw_ret hx hb hr hlk hd.1
/-- FROM the loop's head on -/
theorem lawLoop {p : Program} {l : Launch} {e : Env} {s : State} {m : MethodId} {below : List Frame} {meth : Method} {c : Code} {E : EV} {L : Nat} {xs : Nat → Int32} (hL : L ≤ 3072) (hx : p.tables.exec = Jvm.exec) (hb : c.code = code) (hml : c.maxLocals = 4) (hr : meth.sig.returnType = ret) (hlk : meth.locks = false) (hs0 : s.heap.size = E.1 + 0 + 1) (hE : EnvOK E s) (hown : s.vm.findClass (cN 13) = some m.cls) (hts : ∀ w ∈ TB, w.before #[Value.ref E.2.1] s = true) (hX : va_X E.2.1 L xs s s.heap) (hbl : E.2.1 < s.heap.size) {h : MH} (hi : Inv2 h h) : Gt p l e room_1 s m #[Value.ref E.2.1] below meth c (lw_Z below #[Value.ref E.2.1] s) E (some L) false 0 4 18 [(3, .inl 0), (2, .inr (.inr (0, 12, 68))), (1, .inr (.inr (0, 11, 1))), (0, .inr (.inr (7, L, 0)))] [] h := by
  obtain ⟨h', hf⟩ := lawRun (N := 20000001) (by omega) (xs := xs) hL 512 0 513 h (by omega) (by omega) (by omega) hi
  have F : FRM p l room_1 s m #[Value.ref E.2.1] meth c code E (some L) false 0 4 115 34 13 (C_Law_law 20000001 xs) := ⟨⟨hx, hb, hml, hE, hown, hts⟩, ⟨hs0, KDL_take, rfl, rfl, fun L' z => by cases z; exact ⟨hX, hbl, by omega⟩⟩, rm1, (fun z => by cases z), (fun _ => Nat.le_refl _), lwc_I 20000001 xs, lwc_J 20000001 xs, (fun _ _ _ _ z => by cases z), (fun _ _ _ _ z => by cases z)⟩
  exact cuts_s (K := 400) (M := 1524) (D := D_Law_law 20000001 xs) (B := B_Law_law 20000001 xs) F (lawRet hx hb hr hlk hs0) chk_Law (hM_Law_law 20000001 xs) (hB_Law_law 20000001 xs) (hD_Law_law 20000001 xs) 512 18 _ _ _ hf
/-- from the entry, for every script of at most 3072 ints, the law comes to its end with true -/
theorem whole_start {p : Program} {e : Env} {s : State} {m : MethodId} {below : List Frame} {meth : Method} {c : Code} (l : Launch) {b L : Nat} {xs : Nat → Int32} (hL : L ≤ 3072) (C0 : lw_At p s m meth c b L xs) : W p l e room_1 s m #[Value.ref b] below meth c s.heap [] 0 0 (lw_Z below #[Value.ref b] s) (entryFrame m ([Value.ref b] : List Value).toArray 4) := by
  obtain ⟨E, hs0, rfl, hE⟩ := env0 C0
  obtain ⟨hx, hb, hr, hml, hown, hts, hX, hbl, hlk, -⟩ := C0
  have hTB : ∀ w ∈ TB, w.before #[Value.ref E.2.1] s = true := fun w hw => hts w (List.mem_filter.mp hw).1
  have hown : s.vm.findClass (cN 13) = some m.cls := hown
  obtain ⟨r1, r2, r3, r4⟩ := rm1
  obtain ⟨x, hw, hfr, hiv⟩ := eWalkMk (N := 20000001) (by omega) (h := e_S_init_1 (sN Z0)) rfl
  have xt : gR x 1 0 = 2 := hfr.r 1 0 rfl
  have hS := s_S_init_1 (l := l) (E := E) (v_S_init_1 20000001 (h := sN Z0) rfl hw xt)
  have hM := s_M_init_68 (l := l) (E := E) (vp_M_init_68 (h := sN (HB x)) rfl)
  have G18 := Gt_md (Fin0 hfr) (lawLoop (l := l) (e := e) (below := below) hL hx hb hml hr hlk hs0 hE hown hTB hX hbl (Inv0 hfr hiv))
  have G17 := xStore_s (t := 0) (i := 3) (d := 1) (pc := 17) (st := [.inl 0]) (h := HD x) (lv := [(2, .inr (.inr (0, 12, 68))), (1, .inr (.inr (0, 11, 1))), (0, .inr (.inr (7, L, 0)))]) (fun _ hnl => fun hlv kk => lv_istore_n hx hb (chk_Law 17 _ rfl).1 rfl hlv hnl rfl kk) (fun z => absurd z (by decide)) (fun z => absurd z (by decide)) (nxG G18) rfl
  have G16 := xPushI_s (d := 1) (v := 0) (pc := 16) (fun k => lv_iconst hx hb (chk_Law 16 _ rfl).1 rfl k) (nxG G17) rfl
  have G15 := xStore_s (t := 2) (i := 2) (d := 1) (pc := 15) (st := [.inr (.inr (0, 12, 68))]) (h := HD x) (lv := [(1, .inr (.inr (0, 11, 1))), (0, .inr (.inr (7, L, 0)))]) (fun z => absurd z (by decide)) (fun z => absurd z (by decide)) (fun _ hnl => fun hlv kk => lv_astore_n hx hb (chk_Law 15 _ rfl).1 rfl hlv hnl rfl kk) (nxG G16) rfl
  have G12 := callT (kd := 4) (j := 163) (idx := 12) (own := 13) (pc := 12) (lim := 115) (dp := 34) (n0 := 0) hx hb hml hE hown hTB hs0 r1 r2 r3 r4 (by decide) (by decide) (by decide) (Nat.le_refl 115) hM (by decide) (chk_Law 12 _ rfl).1 (by decide) (by decide) G15
  have G11 := xDup_s (pc := 11) (st := [.inr (.inr (0, 12, 68))]) hx hb (chk_Law 11 _ rfl).1 (nxG G12) rfl
  have G8 := xNew_s (C := CNW) (n0 := 0) (lim := 115) (own := 13) (idx := 10) (ci := 12) (pc := 8) (st := []) (h := HB x) hx hb hE hown hTB hs0 rfl rfl r1 r2 (by decide) (chk_Law 8 _ rfl).1 (nxG G11) rfl
  have G7 := xStore_s (t := 2) (i := 1) (d := 1) (pc := 7) (st := [.inr (.inr (0, 11, 1))]) (h := HB x) (lv := [(0, .inr (.inr (7, L, 0)))]) (fun z => absurd z (by decide)) (fun z => absurd z (by decide)) (fun _ hnl => fun hlv kk => lv_astore_n hx hb (chk_Law 7 _ rfl).1 rfl hlv hnl rfl kk) (nxG G8) rfl
  have G4 := callT (kd := 4) (j := 108) (idx := 9) (own := 13) (pc := 4) (lim := 115) (dp := 34) (n0 := 0) hx hb hml hE hown hTB hs0 r1 r2 r3 r4 (by decide) (by decide) (by decide) (show 67 ≤ 115 by omega) hS (by decide) (chk_Law 4 _ rfl).1 (by decide) (by decide) G7
  have G3 := xDup_s (pc := 3) (st := [.inr (.inr (0, 11, 1))]) hx hb (chk_Law 3 _ rfl).1 (nxG G4) rfl
  have G0 := xNew_s (C := CNW) (n0 := 0) (lim := 115) (own := 13) (idx := 7) (ci := 11) (pc := 0) (st := []) (h := Z0) hx hb hE hown hTB hs0 rfl rfl r1 r2 (by decide) (chk_Law 0 _ rfl).1 (nxG G3) rfl
  have hl := lv_entry (([.inr (.inr (7, L, 0))] : List MV).map (cv E)) (n := 4) (by rw [lg_wd]; exact Nat.le_of_ble_eq_true rfl)
  rw [lvA_cv] at hl
  show W p l e room_1 s m #[Value.ref E.2.1] below meth c s.heap [] 0 0 (lw_Z below #[Value.ref E.2.1] s) (entryFrame m (([.inr (.inr (7, L, 0))] : List MV).map (cv E)).toArray 4)
  rw [lg_entry_eq]
  refine G0 _ s.heap [] 0 0 ⟨hl, ?_, ?_, ⟨?_, va_S.rf, fun z => by cases z⟩, rfl, rfl⟩
  · intro q hq
    rw [List.mem_singleton] at hq
    subst hq
    exact rfl
  · intro v hv
    cases hv
  · intro k q hq
    cases hq
