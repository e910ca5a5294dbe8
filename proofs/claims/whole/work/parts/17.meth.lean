
theorem met_ofWF {l : Launch} {y : MethodName} {ws ws' : List Cond} {rm : Room} {Pc : Array Value → State → Prop} {Qc : Array Value → State → Outcome → State → Prop} {mc ms : Nat} {free : Addr → Prop} {cc : ByteArray} {maxL : Nat} {ret : Option FieldType}
    (hy : plainFor y = true) (hw : ws = Cond.code y cc maxL ret :: ws')
    (body : ∀ p e s m args below meth c s₁, BodyLoose p l y (headSpec ws rm) cc maxL ret e s m args below meth c s₁ → c.maxLocals = maxL → Pc args s →
      W p l e (headSpec ws rm).room s m args below meth c s.heap [] 0 0 (MQ below Qc args s mc ms free) (entryFrame m args maxL)) : Met l y ws rm Pc Qc mc ms free := by
  refine MetFree.of_bodySF (code := cc) (maxLocals := maxL) (ret := ret) hy ?_ ?_
  · intro args s m h hn
    obtain ⟨meth, c, h1, h2, h3, h4, h5, h6, -, -⟩ := Cond.code_spec hn (atoms_spec (ws := ws) h _ (by rw [hw]; exact List.mem_cons_self))
    exact ⟨meth, c, h1, h2, h3, h4, h5, h6⟩
  · intro p e s m args below meth c s₁ B hml hP _
    have hh0 : s₁.heap = s.heap := by rw [B.state]; rfl
    obtain ⟨t, a1, o, b1, b2, b3⟩ := body p e s m args below meth c s₁ B hml hP s₁ hh0 (Stand.of_body B)
    exact ⟨t, o, a1, b1, b2, ⟨b3.1, b3.2⟩⟩
/-- the locals at a method's entry -/
def lvA : Nat → List MV → ML
  | _, [] => []
  | i, v :: vs => (i, v) :: lvA (if is2 v = true then i + 2 else i + 1) vs
theorem lvA_cv (E : EV) : ∀ (i : Nat) (as : List MV), lv_args i (as.map (cv E)) = cvL E (lvA i as)
  | _, [] => rfl
  | i, v :: vs => by
    rw [List.map_cons, lv_args, lvA, cv_cat]
    show _ :: _ = (i, cv E v) :: cvL E _
    congr 1
    rw [← lvA_cv E _ vs]
    cases hv : is2 v <;> simp
theorem lg_wd (E : EV) : ∀ as : List MV, (lg_sl (as.map (cv E))).length = wd as
  | [] => rfl
  | v :: vs => by
    have ih := lg_wd E vs
    unfold lg_sl at ih ⊢
    rw [List.map_cons, List.flatMap_cons, List.length_append, ih, cv_cat]
    show _ = (if is2 v = true then 2 else 1) + wd vs
    cases hv : is2 v <;> simp
def rzT (rz : Nat) : FieldType := match rz with
  | 0 => .int
  | 1 => .boolean
  | 2 => .byte
  | _ => .char
theorem nar_ty {rz : Nat} {x : Int32} (h : narOK rz x = true) : narrow (rzT rz) (.int x) = .int x := by
  unfold narOK at h
  unfold rzT
  split at h
  · rename_i hz
    rw [Nat.eq_of_beq_eq_true hz]
    rfl
  · rename_i h0
    split at h
    · rename_i hz
      rw [Nat.eq_of_beq_eq_true hz]
      have hx : x = 0 ∨ x = 1 := by simpa using h
      rcases hx with rfl | rfl <;> decide
    · rename_i h1
      split at h
      · rename_i hz
        rw [Nat.eq_of_beq_eq_true hz]
        have hx := of_decide_eq_true h
        rw [← hx]
        exact pk_nb x
      · rename_i h2
        have hx := of_decide_eq_true h
        have hz : rz ≠ 0 ∧ rz ≠ 1 ∧ rz ≠ 2 := ⟨fun q => by subst q; simp at h0, fun q => by subst q; simp at h1, fun q => by subst q; simp at h2⟩
        split
        · exact absurd rfl hz.1
        · exact absurd rfl hz.2.1
        · exact absurd rfl hz.2.2
        · rw [← hx]
          exact pk_nc x
/-- what a method answers is of its type -/
def rtOK (j rz : Nat) (v : Option MV) : Prop := match v with
  | some (.inl _) => mR j = some (rzT rz)
  | some (.inr (.inl _)) => mR j = some .long
  | some (.inr (.inr _)) => ∃ n, mR j = some (.object n)
  | none => mR j = none
theorem ret_s {p : Program} {l : Launch} {e : Env} {R : Room} {s : State} {m : MethodId} {args : Array Value} {below : List Frame} {meth : Method} {c : Code} {E : EV} {md : Bool} {n0 nL rz j : Nat} {RT : Type} {ret : Option MV → MH → Option RT} {r : RT} {vr : Option MV} {hr : MH} (hx : p.tables.exec = Jvm.exec) (hb : c.code = mC j) (hre : meth.sig.returnType = mR j) (hlocks : meth.locks = false) (hn0 : md = false → n0 = 115) (hrt : ∀ v h', ret v h' = some r → v = vr ∧ h' = hr) (hty : rtOK j rz vr) : RetOK p l e R s m args below meth c (MQ below (QcM E md vr hr) args s (mcM md n0 hr.1) (mcM md (ss n0) (ss hr.1)) (fun q => E.1 < q)) (mC j) E none md n0 nL rz ret r := by
  intro pc lv h' v hv hd ls H locs cells slots hT
  obtain ⟨rfl, rfl⟩ := hrt v h' hv
  obtain ⟨hP, hS, hfin⟩ := hT.2.2.2.1
  have hc := hT.2.2.2.2.1
  have hs := hT.2.2.2.2.2
  have e1 : mcM md n0 h'.1 = cells := by
    unfold mcM
    cases md with
    | true => rw [if_pos rfl]; omega
    | false =>
      rw [if_neg (by decide)]
      have := hn0 rfl
      have := (hfin rfl).1
      omega
  have e2 : mcM md (ss n0) (ss h'.1) = slots := by
    unfold mcM
    cases md with
    | true => rw [if_pos rfl]; omega
    | false =>
      rw [if_neg (by decide)]
      have a1 := hn0 rfl
      have a2 := (hfin rfl).1
      rw [a1, ← a2] at hs
      omega
  rw [e1, e2]
  have hq : ∀ t : State, t.heap = H → s.WarmedH t.vm → QcM E md v h' args s (.returned (v.map (cv E))) t := fun t ht _ => ⟨rfl, by rw [ht]; exact hP, hfin, fun w hw => by
      subst hw
      exact hT.2.2.1 w (by simp), by rw [ht]; exact hS.1, fun q h1 h2 => by rw [ht]; exact hS.2.1 q h1 h2⟩
  rcases v with _ | x | x | x
  · exact W.vret hx hb (hre.trans hty) hq hS.2.2 hd hlocks
  · exact W.zret hx hb (hre.trans hty) (nar_ty hd.2) hq hS.2.2 hd.1 hlocks
  · exact W.lret hx hb (hre.trans hty) hq hS.2.2 hd hlocks
  · obtain ⟨n, hn⟩ := hty
    exact W.aret hx hb (hre.trans hn) (Or.inl ⟨n, rfl⟩) (Or.inr ⟨_, rfl⟩) hq hS.2.2 hd hlocks
/-- THE CONTRACT of a method out of its cuts -/
theorem snd_of {l : Launch} {E : EV} {md : Bool} {RT : Type} {ret : Option MV → MH → Option RT} {r : RT} {vr : Option MV} {hr : MH} {j own dp rz lim : Nat} {as : List MV} {h : MH} {C : MC} (hrt : ∀ v h', ret v h' = some r → v = vr ∧ h' = hr) (hty : rtOK j rz vr) (hcls : (mN j).cls = cN own) (hpl : plainFor (mN j) = true) (hcw : Cond.code (mN j) (mC j) (mL j) (mR j) ∈ TB) (hrecv : RecvOK j as) (hmono : md = true → h.1 ≤ hr.1)
    (hC1 : C.1 = KDL.take (lim + 1)) (hC2 : C.2.1 = md) (hC4 : C.2.2.2.1 = jsB) (hini : md = true → (mN j).name = "<init>") (hlim : md = true → lim = hr.1) (hlim2 : md = false → lim = 115) (hwd : wd as ≤ mL j)
    (hcI : ∀ j as h x, C.2.2.2.2.1 j as h = some x → ∃ dp', dp' + 1 ≤ dp ∧ (md = true → x.2.1 ≤ lim) ∧ SndM l E md dp' j as h (some (.inl x.1)) x.2) (hcJ : ∀ j as h x, C.2.2.2.2.2.1 j as h = some x → ∃ dp', dp' + 1 ≤ dp ∧ (md = true → x.2.1 ≤ lim) ∧ SndM l E md dp' j as h (some (.inr (.inl x.1))) x.2) (hcR : ∀ j as h x, C.2.2.2.2.2.2.1 j as h = some x → ∃ dp', dp' + 1 ≤ dp ∧ (md = true → x.2.1 ≤ lim) ∧ SndM l E md dp' j as h (some (.inr (.inr (0, 2, x.1)))) x.2) (hcV : ∀ j as h x, C.2.2.2.2.2.2.2 j as h = some x → ∃ dp', dp' + 1 ≤ dp ∧ (md = true → x.1 ≤ lim) ∧ SndM l E md dp' j as h none x)
    (hG : ∀ p e R s m args below meth c Q n0, FRM p l R s m args meth c (mC j) E none md n0 (mL j) lim dp own C → RetOK p l e R s m args below meth c Q (mC j) E none md n0 (mL j) rz ret r → Gt p l e R s m args below meth c Q E none md n0 (mL j) 0 (lvA 0 as) [] h) : SndM l E md dp j as h vr hr := by
  refine ⟨hmono, hrecv, hcw, met_ofWF (cc := mC j) (maxL := mL j) (ret := mR j) (ws' := TB) hpl rfl ?_⟩
  intro p e s m args below meth c s₁ B hml hv
  obtain ⟨rfl, hsz, hP, hE, has, hfin⟩ := hv
  have hts : ∀ w ∈ TB, w.before ((as.map (cv E)).toArray) s = true := fun w hw => atoms_spec (ws := wsM j) B.pre w (List.mem_cons_of_mem _ hw)
  have hown : s.vm.findClass (cN own) = some m.cls := by
    have := findClass_of_methodNamed B.named
    rw [hcls] at this
    exact this
  have hl := lv_entry (as.map (cv E)) (n := mL j) (by rw [lg_wd]; exact hwd)
  rw [lg_entry_eq]
  rw [lvA_cv] at hl
  have hnm : md = true → meth.name = "<init>" := fun z => by
    rw [(name_of_methodNamed B.named B.method).1]
    exact hini z
  refine hG p e _ s m _ below meth c _ h.1 ⟨⟨B.exec, B.bytes, hml, hE, hown, hts⟩, ⟨hsz, hC1, hC2, hC4, fun L z => by cases z⟩, ⟨?_, ?_, ?_, ?_⟩, hnm, fun z => by rw [hlim2 z]; exact Nat.le_refl _, hcI, hcJ, hcR, hcV⟩ (ret_s B.exec B.bytes B.returns B.notSynchronized (fun z => (hfin z).1) hrt hty) _ s.heap [] 0 0 ⟨hl, ?_, ?_, ⟨hP, va_S.rf, hfin⟩, by omega, by omega⟩
  · show lim ≤ mcM md h.1 hr.1 + h.1
    unfold mcM
    cases md with
    | true => rw [if_pos rfl, hlim rfl]; omega
    | false => rw [if_neg (by decide), hlim2 rfl, (hfin rfl).1]; omega
  · show ss lim ≤ mcM md (ss h.1) (ss hr.1) + ss h.1
    unfold mcM
    cases md with
    | true => rw [if_pos rfl, hlim rfl]; omega
    | false => rw [if_neg (by decide), hlim2 rfl, (hfin rfl).1]; omega
  · exact Nat.le_refl _
  · exact Nat.le_refl _
  · intro q hq
    have : ∀ (i : Nat) (as : List MV), (∀ v ∈ as, okv none h v) → ∀ q ∈ lvA i as, okv none h q.2 := by
      intro i as
      induction as generalizing i with
      | nil => intro _ q hq; cases hq
      | cons v vs ih =>
        intro ha q hq
        rw [lvA] at hq
        rcases List.mem_cons.mp hq with rfl | hq
        · exact ha v List.mem_cons_self
        · exact ih _ (fun w hw => ha w (List.mem_cons_of_mem _ hw)) q hq
    exact this 0 as has q hq
  · intro v hv
    cases hv
/-- a table of rows, held against a method's code -/
def chkT (own : Nat) (md : Bool) (cc : ByteArray) (tab : List (List (Option RW))) : Bool := (List.range (tab.length * 32)).all (fun pc => match rowAt tab pc with
  | some w => decide (decode cc pc = .ok (w.1, w.2.1)) && aokR own md pc w
  | none => true)
theorem chkT_ok {own : Nat} {md : Bool} {cc : ByteArray} {tab : List (List (Option RW))} (h : chkT own md cc tab = true) (pc : Nat) (w : RW) (hw : rowAt tab pc = some w) : decode cc pc = .ok (w.1, w.2.1) ∧ aokR own md pc w = true := by
  have hlt : pc < tab.length * 32 := by
    refine Nat.lt_of_not_le (fun q => ?_)
    unfold rowAt at hw
    rw [List.getElem?_eq_none (l := tab) (i := pc / 32) (by omega)] at hw
    simp at hw
  have := List.all_eq_true.mp h pc (List.mem_range.mpr hlt)
  rw [hw] at this
  simp only [Bool.and_eq_true, decide_eq_true_eq] at this
  exact this
theorem KDL_take : KDL = KDL.take (115 + 1) := by rfl
theorem rI_eq {r : Int32 × MH} : ∀ v h', rI v h' = some r → v = some (.inl r.1) ∧ h' = r.2 := by
  intro v h' h
  unfold rI at h
  split at h
  · cases h; exact ⟨rfl, rfl⟩
  · cases h
theorem rJ_eq {r : Int64 × MH} : ∀ v h', rJ v h' = some r → v = some (.inr (.inl r.1)) ∧ h' = r.2 := by
  intro v h' h
  unfold rJ at h
  split at h
  · cases h; exact ⟨rfl, rfl⟩
  · cases h
theorem rR_eq {r : Nat × MH} : ∀ v h', rR v h' = some r → v = some (.inr (.inr (0, 2, r.1))) ∧ h' = r.2 := by
  intro v h' h
  unfold rR at h
  split at h
  · cases h; exact ⟨rfl, rfl⟩
  · cases h
theorem rV_eq {r : MH} : ∀ v h', rV v h' = some r → v = none ∧ h' = r := by
  intro v h' h
  unfold rV at h
  split at h
  · cases h; exact ⟨rfl, rfl⟩
  · cases h
