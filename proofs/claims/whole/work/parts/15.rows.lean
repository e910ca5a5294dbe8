
def CIT : List (Nat × Nat × Int32 × Nat) := [(17, 265, 1431655765, 1142), (17, 266, 858993459, 1143), (17, 267, 252645135, 1144), (1, 35, 1000000, 1332), (12, 232, 1000000, 1679), (12, 489, 100000000, 1974)]
def CJT : List (Nat × Nat × Int64 × Nat) := [(9, 32, -1, 698), (7, 195, -9, 905), (7, 197, 9, 906), (4, 28, 2, 1013), (8, 25, 10000, 1289), (11, 353, 10000, 1293), (12, 199, -1, 1644), (12, 311, -9, 1756), (12, 313, 9, 1757), (12, 415, 2, 1827), (12, 477, 10000, 1958), (12, 482, 1000, 1964), (12, 487, 99, 1973), (13, 32, 4294967295, 1979)]
def inCI (own i : Nat) (v : Int32) : Bool := CIT.any (fun q => Nat.beq q.1 own && Nat.beq q.2.1 i && decide (q.2.2.1 = v))
def inCJ (own i : Nat) (v : Int64) : Bool := CJT.any (fun q => Nat.beq q.1 own && Nat.beq q.2.1 i && decide (q.2.2.1 = v))
theorem ci_all : CIT.all (fun q => decide (lw_tbl[q.2.2.2]? = some (.constant (cN q.1) q.2.1 q.2.2.1))) = true := by decide +kernel
theorem cj_all : CJT.all (fun q => decide (lw_tbl[q.2.2.2]? = some (.constantLong (cN q.1) q.2.1 q.2.2.1))) = true := by decide +kernel
theorem w_cs : lw_tbl[779]? = some (.fieldLink "java/lang/String" 38 "java/lang/String" "COMPACT_STRINGS" "Z") := by decide +kernel
theorem CI_ok {own i : Nat} {v : Int32} (h : inCI own i v = true) : Cond.constant (cN own) i v ∈ TB := by
  obtain ⟨q, hq, h1⟩ := List.any_eq_true.mp h
  simp only [Bool.and_eq_true, decide_eq_true_eq] at h1
  have e1 := Nat.eq_of_beq_eq_true h1.1.1
  have e2 := Nat.eq_of_beq_eq_true h1.1.2
  have e3 := h1.2
  have h2 := List.all_eq_true.mp ci_all q hq
  obtain ⟨a1, a2, a3, a4⟩ := q
  simp only at e1 e2 e3
  subst e1 e2 e3
  exact TB_in _ (of_decide_eq_true h2) rfl
theorem CJ_ok {own i : Nat} {v : Int64} (h : inCJ own i v = true) : Cond.constantLong (cN own) i v ∈ TB := by
  obtain ⟨q, hq, h1⟩ := List.any_eq_true.mp h
  simp only [Bool.and_eq_true, decide_eq_true_eq] at h1
  have e1 := Nat.eq_of_beq_eq_true h1.1.1
  have e2 := Nat.eq_of_beq_eq_true h1.1.2
  have e3 := h1.2
  have h2 := List.all_eq_true.mp cj_all q hq
  obtain ⟨a1, a2, a3, a4⟩ := q
  simp only at e1 e2 e3
  subst e1 e2 e3
  exact TB_in _ (of_decide_eq_true h2) rfl
def inSR (own i k : Nat) : Bool := SREF.any (fun q => decide (q.1 = cN own) && Nat.beq q.2.1 i && Nat.beq q.2.2.2 k) && Nat.blt k jsB.length
/-- one place in a list of numbers -/
def a1 (aux : List Nat) (k : Nat) : Bool := match aux with
  | [i] => Nat.beq i k
  | _ => false
theorem a1_ok {aux : List Nat} {k : Nat} (h : a1 aux k = true) : aux.getD 0 0 = k := by
  unfold a1 at h
  split at h
  · exact Nat.eq_of_beq_eq_true h
  · cases h
def aT (aux : List Nat) (pc : Nat) (off : Int) : Bool := match aux with
  | [t] => decide ((pc : Int) + off = (t : Int))
  | _ => false
theorem aT_ok {aux : List Nat} {pc : Nat} {off : Int} (h : aT aux pc off = true) : (pc : Int) + off = ((aux.getD 0 0 : Nat) : Int) := by
  unfold aT at h
  split at h
  · exact of_decide_eq_true h
  · cases h
/-- a call's row: the group of the instruction (0 virtual, 1 static, 2 special) -/
def grp (kd : Nat) : Nat := if kd ≤ 1 ∨ kd = 6 then 0 else if kd ≤ 3 then 1 else 2
def cOK (own idx g : Nat) (aux : List Nat) : Bool := match aux with
  | kd :: j :: n :: rt => inCL own idx kd j && Nat.beq n (mA j) && !(Nat.beq j 276) && Nat.beq (grp kd) g && (match rt with
    | [2, kt, xt] => Nat.beq kt 0 && Nat.beq xt 2
    | _ => true)
  | _ => false
def swOK (pc : Nat) (d lo hi : Int) (offs : Array Int) (aux : List Nat) : Bool := match aux with
  | dt :: ts => decide (lo = 0) && decide (hi = (ts.length : Int) - 1) && decide ((pc : Int) + d = (dt : Int)) && decide (offs.size = ts.length) && (List.range ts.length).all (fun k => decide (offs[k]?.map (fun x => (pc : Int) + x) = (ts[k]?).map Int.ofNat)) && Nat.ble ts.length 1000
  | _ => false
/-- a row of a table, held against the code and the links -/
def aokR (own : Nat) (md : Bool) (pc : Nat) (w : RW) : Bool := match w.1 with
  | .iconst n => Nat.beq w.2.1 1 && decide (Int32.ofInt n = w.2.2.2.1)
  | .bipush n => Nat.beq w.2.1 2 && decide ((Int8.ofInt n).toInt32 = w.2.2.2.1)
  | .sipush n => Nat.beq w.2.1 3 && decide ((Int16.ofInt n).toInt32 = w.2.2.2.1)
  | .ldc i => Nat.beq w.2.1 2 && (match w.2.2.1 with
    | [k] => inSR own i k
    | [] => inCI own i w.2.2.2.1
    | _ => false)
  | .ldc_w i => Nat.beq w.2.1 3 && inCI own i w.2.2.2.1
  | .getstatic i => Nat.beq w.2.1 3 && Nat.beq own 14 && Nat.beq i 38 && decide (w.2.2.2.1 = 1)
  | .lconst n => Nat.beq w.2.1 1 && decide (Int64.ofNat (n : Nat) = w.2.2.2.2)
  | .ldc2_w i => Nat.beq w.2.1 3 && inCJ own i w.2.2.2.2
  | .iload i | .lload i | .aload i | .istore i | .lstore i | .astore i => Nat.beq w.2.1 2 && a1 w.2.2.1 i
  | .iload_n i | .lload_n i | .aload_n i | .istore_n i | .lstore_n i | .astore_n i => Nat.beq w.2.1 1 && a1 w.2.2.1 (i : Nat)
  | .iinc i n => Nat.beq w.2.1 3 && a1 w.2.2.1 i && decide (Int32.ofInt n = w.2.2.2.1)
  | .iadd | .isub | .imul | .iand | .ior | .ixor | .ishl | .ishr | .iushr | .idiv | .irem | .ineg | .i2b | .i2s | .i2c | .i2l | .l2i | .ladd | .lsub | .lmul | .land | .lor | .ldiv | .lrem | .lneg | .lshl | .lshr | .lushr | .lcmp | .dup | .dup2 | .pop | .iaload | .laload | .baload | .aaload | .iastore | .lastore | .bastore | .arraylength | .ireturn | .lreturn | .areturn | .return_ => Nat.beq w.2.1 1
  | .aastore => Nat.beq w.2.1 1 && md
  | .if_icmp _ off | .ifCond _ off | .goto off => Nat.beq w.2.1 3 && aT w.2.2.1 pc off
  | .tableswitch d lo hi offs => swOK pc d lo hi offs w.2.2.1
  | .getfield i => Nat.beq w.2.1 3 && gOK own i w.2.2.1
  | .putfield i => Nat.beq w.2.1 3 && pOK own i w.2.2.1
  | .new i => Nat.beq w.2.1 3 && (match w.2.2.1 with
    | [ci] => inNW own i ci
    | _ => false)
  | .newarray k => Nat.beq w.2.1 2 && a1 w.2.2.1 (atk k) && !(Nat.beq (atk k) 0)
  | .anewarray i => Nat.beq w.2.1 3 && inNW own i 9
  | .invokevirtual i => Nat.beq w.2.1 3 && cOK own i 0 w.2.2.1
  | .invokestatic i => Nat.beq w.2.1 3 && (match w.2.2.1 with
    | [9] => inAC own i
    | _ => cOK own i 1 w.2.2.1)
  | .invokespecial i => Nat.beq w.2.1 3 && (match w.2.2.1 with
    | [8] => inOB own i
    | _ => cOK own i 2 w.2.2.1)
  | _ => false
section Sound
variable {p : Program} {l : Launch} {e : Env} {R : Room} {s : State} {m : MethodId} {args : Array Value} {below : List Frame} {meth : Method} {c : Code} {Q : State → Prop} {cc : ByteArray} {E : EV} {o : Option Nat} {md : Bool} {n0 nL rz lim dp : Nat} {RT : Type} {ret : Option MV → MH → Option RT} {next : Nat → ML → List MV → MH → Option RT} {r : RT} {pc : Nat} {lv : ML} {st : List MV} {h : MH} {C : MC} {own idx : Nat}
/-- what holds in a frame all along -/
def FRM (p : Program) (l : Launch) (R : Room) (s : State) (m : MethodId) (args : Array Value) (meth : Method) (c : Code) (cc : ByteArray) (E : EV) (o : Option Nat) (md : Bool) (n0 nL lim dp own : Nat) (C : MC) : Prop :=
  (p.tables.exec = Jvm.exec ∧ c.code = cc ∧ c.maxLocals = nL ∧ EnvOK E s ∧ s.vm.findClass (cN own) = some m.cls ∧ (∀ w ∈ TB, w.before args s = true)) ∧ (s.heap.size = E.1 + n0 + 1 ∧ C.1 = KDL.take (lim + 1) ∧ C.2.1 = md ∧ C.2.2.2.1 = jsB ∧ (∀ L, o = some L → va_X E.2.1 L C.2.2.1 s s.heap ∧ E.2.1 < s.heap.size ∧ ¬ E.1 < E.2.1)) ∧ (lim ≤ R.cells + n0 ∧ ss lim ≤ R.slots + ss n0 ∧ dp + 1 ≤ R.frames ∧ 60 * dp + 40 ≤ R.locals) ∧ (md = true → meth.name = "<init>") ∧ (md = false → 115 ≤ lim) ∧
  ((∀ j as h x, C.2.2.2.2.1 j as h = some x → ∃ dp', dp' + 1 ≤ dp ∧ (md = true → x.2.1 ≤ lim) ∧ SndM l E md dp' j as h (some (.inl x.1)) x.2) ∧ (∀ j as h x, C.2.2.2.2.2.1 j as h = some x → ∃ dp', dp' + 1 ≤ dp ∧ (md = true → x.2.1 ≤ lim) ∧ SndM l E md dp' j as h (some (.inr (.inl x.1))) x.2) ∧ (∀ j as h x, C.2.2.2.2.2.2.1 j as h = some x → ∃ dp', dp' + 1 ≤ dp ∧ (md = true → x.2.1 ≤ lim) ∧ SndM l E md dp' j as h (some (.inr (.inr (0, 2, x.1)))) x.2) ∧ (∀ j as h x, C.2.2.2.2.2.2.2 j as h = some x → ∃ dp', dp' + 1 ≤ dp ∧ (md = true → x.1 ≤ lim) ∧ SndM l E md dp' j as h none x))
/-- the ends -/
def RetOK (p : Program) (l : Launch) (e : Env) (R : Room) (s : State) (m : MethodId) (args : Array Value) (below : List Frame) (meth : Method) (c : Code) (Q : State → Prop) (cc : ByteArray) (E : EV) (o : Option Nat) (md : Bool) (n0 nL rz : Nat) {RT : Type} (ret : Option MV → MH → Option RT) (r : RT) : Prop :=
  ∀ pc lv h v, ret v h = some r → (match v with
    | some (.inl x) => decode cc pc = .ok (.ireturn, 1) ∧ narOK rz x = true
    | some (.inr (.inl _)) => decode cc pc = .ok (.lreturn, 1)
    | some (.inr (.inr _)) => decode cc pc = .ok (.areturn, 1)
    | none => decode cc pc = .ok (.return_, 1)) → Gt p l e R s m args below meth c Q E o md n0 nL pc lv v.toList h
theorem callGo {kd j dp' : Nat} {as : List MV} {v : Option MV} {h' : MH} (F : FRM p l R s m args meth c cc E o md n0 nL lim dp own C) (hcl : inCL own idx kd j = true) (h276 : j ≠ 276) (hdp : dp' + 1 ≤ dp) (hlim : md = true → h'.1 ≤ lim) (hM : SndM l E md dp' j as h v h') (hlen : as.length = mA j)
    (hd : decode cc pc = .ok (if kd ≤ 1 ∨ kd = 6 then .invokevirtual idx else if kd ≤ 3 then .invokestatic idx else .invokespecial idx, 3)) (hw : wd st ≤ 8) (h7 : no7 as = true) (hnx : Gt p l e R s m args below meth c Q E o md n0 nL (pc + 3) lv (v.toList ++ st) h') : Gt p l e R s m args below meth c Q E o md n0 nL pc lv (as.reverse ++ st) h := by
  obtain ⟨⟨hx, hb, hml, hE, hown, hts⟩, ⟨hs0, -⟩, ⟨hR1, hR2, hR3, hR4⟩, -, hl0, -⟩ := F
  intro ls H locs cells slots hT
  obtain ⟨hP, hS, hfin⟩ := hT.2.2.2.1
  have has : ∀ w ∈ as, okv none h w := fun w hw => okv_no7 (hT.2.2.1 w (List.mem_append_left _ (List.mem_reverse.mpr hw))) (by
    have := List.all_eq_true.mp h7 w hw
    simpa using this)
  have hr : ∀ w ∈ st, okv o h w := fun w hw => hT.2.2.1 w (List.mem_append_right _ hw)
  intro T hT0 X
  have hz := sz_eq X hT0 hs0 hP hS hT.2.2.2.2.1
  have hrun := callRun (e := e) (below := below) (meth := meth) (lim := lim) hx hb hml hE hown hts hR1 hR2 hR3 hR4 hcl h276 hdp hlim hM hlen (fun z => by rw [(hfin z).1]; exact hl0 z) hd hT hw has hz
  refine runM hrun hS (fun H1 locs1 hP1 hf1 hk1 hS1 => ?_) T hT0 X
  have hmono : h.1 ≤ h'.1 := by
    cases md with
    | true => exact hM.1 rfl
    | false => rw [(hfin rfl).1, (hf1 rfl).1]; exact Nat.le_refl _
  have hG := hnx ls H1 locs1 (cells + mcM md h.1 h'.1) (slots + mcM md (ss h.1) (ss h'.1)) ⟨hT.1, fun q hq => okv_mono hmono (hT.2.1 q hq), fun w hw => ?_, ⟨hP1, hS1, hf1⟩, ?_, ?_⟩
  · have he : (v.map (cv E)).toList ++ st.map (cv E) = (v.toList ++ st).map (cv E) := by cases v <;> rfl
    rw [he]
    exact hG
  · rcases List.mem_append.mp hw with hw | hw
    · cases v with
      | none => cases hw
      | some u =>
        rw [Option.toList_some, List.mem_singleton] at hw
        rw [hw]
        exact okv_none (hk1 u rfl)
    · exact okv_mono hmono (hr w hw)
  · have := hT.2.2.2.2.1
    unfold mcM
    cases md with
    | true => rw [if_pos rfl]; omega
    | false =>
      rw [if_neg (by decide)]
      have a1 := (hfin rfl).1
      have a2 := (hf1 rfl).1
      omega
  · have := hT.2.2.2.2.2
    have := ss_mono hmono
    unfold mcM
    cases md with
    | true => rw [if_pos rfl]; omega
    | false =>
      rw [if_neg (by decide)]
      have a1 := (hfin rfl).1
      have a2 := (hf1 rfl).1
      rw [a2, ← a1]
      omega
theorem xCall_s {aux : List Nat} {g : Nat} (F : FRM p l R s m args meth c cc E o md n0 nL lim dp own C) (hg : cOK own idx g aux = true) (hd : decode cc pc = .ok (if g = 0 then .invokevirtual idx else if g = 1 then .invokestatic idx else .invokespecial idx, 3)) (hn : ∀ pc lv st h, next pc lv st h = some r → Gt p l e R s m args below meth c Q E o md n0 nL pc lv st h) (hf : xCall C next aux pc lv st h = some r) : Gt p l e R s m args below meth c Q E o md n0 nL pc lv st h := by
  have key : ∀ kd j n rt, aux = kd :: j :: n :: rt → (Nat.ble n st.length && Nat.ble (wd (st.drop n)) 8 && no7 (st.take n)) = true → ∀ dp' v h', dp' + 1 ≤ dp → (md = true → h'.1 ≤ lim) → SndM l E md dp' j (st.take n).reverse h v h' → next (pc + 3) lv (v.toList ++ st.drop n) h' = some r → Gt p l e R s m args below meth c Q E o md n0 nL pc lv st h := by
    intro kd j n rt haux hc dp' v h' h1 h2 hM hf2
    clear hf
    subst haux
    unfold cOK at hg
    simp only [Bool.and_eq_true] at hc hg
    obtain ⟨⟨⟨⟨g1, g2⟩, g3⟩, g4⟩, -⟩ := hg
    have g2 := Nat.eq_of_beq_eq_true g2
    have g4 := Nat.eq_of_beq_eq_true g4
    have g3 : j ≠ 276 := fun q => by subst q; simp at g3
    have hle := Nat.le_of_ble_eq_true hc.1.1
    have hd' : decode cc pc = .ok (if kd ≤ 1 ∨ kd = 6 then .invokevirtual idx else if kd ≤ 3 then .invokestatic idx else .invokespecial idx, 3) := by
      rw [hd, ← g4]
      unfold grp
      split
      · rfl
      · split <;> rfl
    have := callGo (st := st.drop n) F g1 g3 h1 h2 hM (by rw [List.length_reverse, List.length_take, ← g2]; omega) hd' (Nat.le_of_ble_eq_true hc.1.2) (by unfold no7; rw [List.all_reverse]; exact hc.2) (hn _ _ _ _ hf2)
    rw [List.reverse_reverse, List.take_append_drop] at this
    exact this
  obtain ⟨-, -, -, -, -, hcI, hcJ, hcR, hcV⟩ := F
  unfold xCall at hf
  split at hf
  · split at hf
    · rename_i hc
      obtain ⟨x, h1, h2⟩ := Option.bind_eq_some_iff.mp hf
      obtain ⟨dp', d1, d2, hM⟩ := hcI _ _ _ _ h1
      exact key _ _ _ _ rfl hc dp' _ _ d1 d2 hM h2
    · cases hf
  · split at hf
    · rename_i hc
      obtain ⟨x, h1, h2⟩ := Option.bind_eq_some_iff.mp hf
      obtain ⟨dp', d1, d2, hM⟩ := hcJ _ _ _ _ h1
      exact key _ _ _ _ rfl hc dp' _ _ d1 d2 hM h2
    · cases hf
  · rename_i kt xt
    split at hf
    · rename_i hc
      obtain ⟨x, h1, h2⟩ := Option.bind_eq_some_iff.mp hf
      obtain ⟨dp', d1, d2, hM⟩ := hcR _ _ _ _ h1
      have hk : kt = 0 ∧ xt = 2 := by
        unfold cOK at hg
        simp only [Bool.and_eq_true] at hg
        exact ⟨Nat.eq_of_beq_eq_true hg.2.1, Nat.eq_of_beq_eq_true hg.2.2⟩
      obtain ⟨rfl, rfl⟩ := hk
      exact key _ _ _ _ rfl hc dp' _ _ d1 d2 hM h2
    · cases hf
  · split at hf
    · rename_i hc
      obtain ⟨x, h1, h2⟩ := Option.bind_eq_some_iff.mp hf
      obtain ⟨dp', d1, d2, hM⟩ := hcV _ _ _ _ h1
      exact key _ _ _ _ rfl hc dp' _ _ d1 d2 hM h2
    · cases hf
  · cases hf
theorem xSw_or {x : Int32} {rr : List MV} {dflt : Nat} : ∀ (ts : List Nat) (k : Nat), xSw next x lv rr h dflt ts k = some r → (∃ i t, ts[i]? = some t ∧ x = nI (k + i) ∧ next t lv rr h = some r) ∨ ((∀ i, i < ts.length → x ≠ nI (k + i)) ∧ next dflt lv rr h = some r)
  | [], k, hf => Or.inr ⟨fun i hi => absurd hi (Nat.not_lt_zero i), hf⟩
  | t :: ts, k, hf => by
    rw [xSw] at hf
    split at hf
    · rename_i hx
      exact Or.inl ⟨0, t, rfl, hx, hf⟩
    · rename_i hx
      rcases xSw_or ts (k + 1) hf with ⟨i, t', h1, h2, h3⟩ | ⟨h1, h2⟩
      · exact Or.inl ⟨i + 1, t', h1, by rw [h2]; congr 1; omega, h3⟩
      · refine Or.inr ⟨fun i hi => ?_, h2⟩
        cases i with
        | zero => exact hx
        | succ i =>
          have := h1 i (by simpa using hi)
          rw [show k + (i + 1) = k + 1 + i by omega]
          exact this
theorem xTab_s {aux : List Nat} {d lo hi : Int} {offs : Array Int} {len : Nat} (hx : p.tables.exec = Jvm.exec) (hb : c.code = cc) (hd : decode cc pc = .ok (.tableswitch d lo hi offs, len)) (hg : swOK pc d lo hi offs aux = true) (hn : ∀ pc lv st h, next pc lv st h = some r → Gt p l e R s m args below meth c Q E o md n0 nL pc lv st h) (hf : xTab next aux lv st h = some r) : Gt p l e R s m args below meth c Q E o md n0 nL pc lv st h := by
  intro ls H locs cells slots hT
  unfold xTab at hf
  split at hf
  · rename_i x rr dt ts
    unfold swOK at hg
    simp only [Bool.and_eq_true, decide_eq_true_eq] at hg
    obtain ⟨⟨⟨⟨⟨g1, g2⟩, g3⟩, g4⟩, g5⟩, g6⟩ := hg
    have g6 := Nat.le_of_ble_eq_true g6
    have hP := PT_st hT (ok1 hT.2.2.1)
    rcases xSw_or ts 0 hf with ⟨i, t, h1, h2, h3⟩ | ⟨h1, h2⟩
    · have hi : i < ts.length := (List.getElem?_eq_some_iff.mp h1).1
      have hk := of_decide_eq_true (List.all_eq_true.mp g5 i (List.mem_range.mpr hi))
      rw [h1] at hk
      obtain ⟨off, ho⟩ : ∃ off, offs[i]? = some off := ⟨_, Array.getElem?_eq_getElem (by omega)⟩
      rw [ho] at hk
      simp only [Option.map_some, Option.some.injEq] at hk
      rw [Nat.zero_add] at h2
      have hsm : i < 2 ^ 31 := by omega
      have hxi : x.toInt = (i : Int) := by rw [h2]; exact nI_toInt hsm
      exact lv_tableIn hx hb hd (by omega) (by omega) (by rw [hxi, g1]; simpa using ho) hk (hn _ _ _ _ h3 _ _ _ _ _ hP)
    · refine lv_tableOut hx hb hd ?_ g3 (hn _ _ _ _ h2 _ _ _ _ _ hP)
      rw [g1, g2]
      rcases Int.lt_or_le x.toInt 0 with z | z
      · exact Or.inl z
      · refine Or.inr (Int.lt_of_not_ge (fun q => ?_))
        have hlt : x.toInt.toNat < ts.length := by omega
        refine h1 x.toInt.toNat hlt ?_
        rw [Nat.zero_add]
        obtain ⟨j, hj, he⟩ := nI_of (x := x) (by rw [Int32.lt_iff_toInt_lt]; exact Int.not_lt.mpr z)
        rw [he, nI_toInt hj]
        simp
  · cases hf
end Sound
