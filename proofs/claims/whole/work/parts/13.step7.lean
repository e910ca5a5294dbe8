
def atk : ArrayType → Nat
  | .int => 1
  | .long => 2
  | .byte => 3
  | .boolean => 4
  | _ => 0
section Steps7
variable {p : Program} {l : Launch} {e : Env} {R : Room} {s : State} {m : MethodId} {args : Array Value} {below : List Frame} {meth : Method} {c : Code} {Q : State → Prop} {cc : ByteArray} {E : EV} {o : Option Nat} {md : Bool} {n0 nL lim : Nat} {RT : Type} {next : Nat → ML → List MV → MH → Option RT} {r : RT} {pc : Nat} {lv : ML} {st : List MV} {h : MH} {C : MC} {own idx : Nat}
theorem newArr {at0 : ArrayType} {ty : FieldType} {kd t0 : Nat} (hx : p.tables.exec = Jvm.exec) (hb : c.code = cc) (hE : EnvOK E s) (hs0 : s.heap.size = E.1 + n0 + 1) (hR1 : lim ≤ R.cells + n0) (hR2 : ss lim ≤ R.slots + ss n0) (harr : (Cond.arrayClass (newarray.typeOf at0)).before args s = true) (hty : newarray.typeOf at0 = ty) (h5 : 1 ≤ kd ∧ kd ≤ 4) (hcb : componentBytes ty ≤ 8) (ht : (tysE E)[t0]? = some (E.2.2.2.2.1 kd, ty)) (hra : ∀ {U : State} {cA : ClassId}, va_RA U cA ty → U.vm.findClass ("[" ++ ty.toString) = some cA)
    {n : Int32} (hn0 : ¬ n < 0) (hk : KDL[h.1 + 1]? = some (kd, iN n)) (hlim : h.1 + 1 ≤ lim) (hmd : md = true) {rr : List MV} (hcell : ∀ cA, cA = E.2.2.2.2.1 kd → ∀ H1 : Heap, H1[E.1 + (h.1 + 1)]? = some (arrV cA (iN n) (fun _ => defaultValue ty)) → va_at (dE E) vwCl (E.1 + (h.1 + 1), cellK E (sN h) (h.1 + 1) (kd, iN n)) H1)
    (hd : decode cc pc = .ok (.newarray at0, 2)) (hnx : Gt p l e R s m args below meth c Q E o md n0 nL (pc + 2) lv (.inr (.inr (kd, iN n, h.1 + 1)) :: rr) (sN h)) : Gt p l e R s m args below meth c Q E o md n0 nL pc lv (.inl n :: rr) h := by
  intro ls H locs cells slots hT
  obtain ⟨hP, hS, hfin⟩ := hT.2.2.2.1
  have hszc : szc (kd, iN n) = iN n := by show (if kd = 0 then _ else _) = _; rw [if_neg (by omega)]
  obtain ⟨r1, r2⟩ := room_sN (R := R) hT.2.2.2.2.1 hT.2.2.2.2.2 hk hszc hlim hR1 hR2
  intro T0 hT0 X
  have hz := sz_eq X hT0 hs0 hP hS hT.2.2.2.2.1
  suffices hW : W p l e R s m args below meth c H locs cells slots Q (F0 m pc ls ((Sum.inl n :: rr).map (cv E))) from hW T0 hT0 X
  clear X hT0
  have hsm : iN n ≤ 20000 := KD_small (kd, iN n) (List.mem_of_getElem? hk)
  refine va_newaK (h := E.1 + h.1 + 1) (N := iN n) hx hb harr rfl hd rfl hn0 rfl (by rw [hty]; exact Nat.le_trans (Nat.mul_le_mul hsm hcb) (by decide)) r1 r2 hz (fun H1 cA g1 z1 o1 hAr hNm => ?_)
  rw [hty] at g1 hNm
  have hcA : cA = E.2.2.2.2.1 kd := by
    have := hra (hE.1.2 t0 _ ht).2
    exact Option.some.inj (hNm.symm.trans this)
  have hadr : (E.1 + h.1 + 1) = adr E kd (iN n) (h.1 + 1) := by rw [adr_c (by omega)]; omega
  rw [hadr]
  exact hnx ls H1 locs _ _ (PT_sN hT hmd (by omega) hk (ok1 hT.2.2.1) hszc (by omega) (fun q hq => o1 q (by omega)) (hcell cA hcA H1 g1))
theorem cell_i {cA : ClassId} {H1 : Heap} {a n : Nat} {h : MH} {ty : FieldType} (hd : defaultValue ty = .int 0) (hg : H1[a]? = some (arrV cA n (fun _ => defaultValue ty))) : H1[a]? = some (vp_cell cA (n, .inl (gI (sN h) (h.1 + 1)))) := by
  rw [hg, vp_cell_i, hd]
  congr 2
  funext j
  rw [(new_sN (h := h) j).1]
theorem xNewA_s {at0 : ArrayType} (hx : p.tables.exec = Jvm.exec) (hb : c.code = cc) (hE : EnvOK E s) (hts : ∀ w ∈ TB, w.before args s = true) (hs0 : s.heap.size = E.1 + n0 + 1) (hC1 : C.1 = KDL.take (lim + 1)) (hC2 : C.2.1 = md) (hR1 : lim ≤ R.cells + n0) (hR2 : ss lim ≤ R.slots + ss n0) (hat : atk at0 ≠ 0)
    (hd : decode cc pc = .ok (.newarray at0, 2)) (hn : ∀ pc lv st h, next pc lv st h = some r → Gt p l e R s m args below meth c Q E o md n0 nL pc lv st h) (hf : xNewA C next (atk at0) 2 pc lv st h = some r) : Gt p l e R s m args below meth c Q E o md n0 nL pc lv st h := by
  unfold xNewA at hf
  split at hf
  · rename_i n rr
    split at hf
    · cases hf
    · rename_i hneg
      have hneg : ¬ n < 0 := of_decide_eq_false hneg
      unfold xNew at hf
      split at hf
      · rename_i hq
        rw [Bool.and_eq_true, hC1] at hq
        have hmd : md = true := by rw [← hC2]; exact hq.2
        obtain ⟨hk, hlim⟩ := kOK_take hq.1
        have hk := (kOK_iff.mp hk).2
        have hnx := hn _ _ _ _ hf
        cases at0 <;> first
          | exact absurd rfl hat
          | exact newArr (ty := .int) (kd := 1) (t0 := 0) hx hb hE hs0 hR1 hR2 (hts _ (TB_in _ w_aI rfl)) rfl (by omega) (by decide) rfl (fun z => z) hneg hk hlim hmd (fun cA e H1 g => by subst e; exact cell_i rfl g) hd hnx
          | exact newArr (ty := .byte) (kd := 3) (t0 := 2) hx hb hE hs0 hR1 hR2 (hts _ (TB_in _ w_aB rfl)) rfl (by omega) (by decide) rfl (fun z => z) hneg hk hlim hmd (fun cA e H1 g => by subst e; exact cell_i rfl g) hd hnx
          | exact newArr (ty := .boolean) (kd := 4) (t0 := 3) hx hb hE hs0 hR1 hR2 (hts _ (TB_in _ w_aZ rfl)) rfl (by omega) (by decide) rfl (fun z => z) hneg hk hlim hmd (fun cA e H1 g => by subst e; exact cell_i rfl g) hd hnx
          | exact newArr (ty := .long) (kd := 2) (t0 := 1) hx hb hE hs0 hR1 hR2 (hts _ (TB_in _ w_aJ rfl)) rfl (by omega) (by decide) rfl (fun z => z) hneg hk hlim hmd (fun cA e H1 g => by
              subst e
              show H1[_]? = some (vp_cell _ (_, .inr (.inl (gJ (sN h) (h.1 + 1)))))
              rw [g, vp_cell_l]
              congr 2
              funext j
              rw [(new_sN (h := h) j).2.1]
              rfl) hd hnx
      · cases hf
  · cases hf
theorem xNewQ_s (hx : p.tables.exec = Jvm.exec) (hb : c.code = cc) (hE : EnvOK E s) (hown : s.vm.findClass (cN own) = some m.cls) (hts : ∀ w ∈ TB, w.before args s = true) (hs0 : s.heap.size = E.1 + n0 + 1) (hC1 : C.1 = KDL.take (lim + 1)) (hC2 : C.2.1 = md) (hR1 : lim ≤ R.cells + n0) (hR2 : ss lim ≤ R.slots + ss n0) (hnw : inNW own idx 9 = true)
    (hd : decode cc pc = .ok (.anewarray idx, 3)) (hn : ∀ pc lv st h, next pc lv st h = some r → Gt p l e R s m args below meth c Q E o md n0 nL pc lv st h) (hf : xNewA C next 5 3 pc lv st h = some r) : Gt p l e R s m args below meth c Q E o md n0 nL pc lv st h := by
  unfold xNewA at hf
  split at hf
  · rename_i n rr
    split at hf
    · cases hf
    · rename_i hneg
      have hneg : ¬ n < 0 := of_decide_eq_false hneg
      unfold xNew at hf
      split at hf
      · rename_i hq
        rw [Bool.and_eq_true, hC1] at hq
        have hmd : md = true := by rw [← hC2]; exact hq.2
        obtain ⟨hk, hlim⟩ := kOK_take hq.1
        have hk := (kOK_iff.mp hk).2
        intro ls H locs cells slots hT
        obtain ⟨hP, hS, hfin⟩ := hT.2.2.2.1
        have hszc : szc (5, iN n) = iN n := rfl
        obtain ⟨r1, r2⟩ := room_sN (R := R) hT.2.2.2.2.1 hT.2.2.2.2.2 hk hszc hlim hR1 hR2
        obtain ⟨C', T, N, hv, hl, hi, hini⟩ := NW_ok hnw
        cases hv
        intro T0 hT0 X
        have hz := sz_eq X hT0 hs0 hP hS hT.2.2.2.2.1
        suffices hW : W p l e R s m args below meth c H locs cells slots Q (F0 m pc ls ((Sum.inl n :: rr).map (cv E))) from hW T0 hT0 X
        clear X hT0
        have hsm : iN n ≤ 20000 := KD_small (5, iN n) (List.mem_of_getElem? hk)
        refine W.anew hx hb hown (hts _ hl) (va_AO.use hE.2.2.2.2.2.1) rfl hd rfl hneg (Nat.le_trans (Nat.mul_le_mul_right 4 (show n.toNatClampNeg ≤ 20000 from hsm)) (by decide)) r1 r2 fun cA kA comp f1 f2 f3 f4 => ?_
        generalize hH1 : H.push ({ cls := cA, slots := Array.replicate n.toNatClampNeg .null, vm := .none } : Cell) = H1
        have z1 : H1.size = H.size + 1 := by rw [← hH1, Array.size_push]
        have e1 : H1[H.size]? = some (arrV cA n.toNatClampNeg (fun _ => .null)) := by rw [← hH1, Array.getElem?_push_size, ← arrV_new]
        have o1 : ∀ q : Nat, q < H.size → H1[q]? = H[q]? := fun q hq => by rw [← hH1, Array.getElem?_push, if_neg (Nat.ne_of_lt hq)]
        have hcA : cA = E.2.2.2.2.1 5 := by
          obtain ⟨kA', comp', -, -, -, g4⟩ := (hE.1.2 4 _ rfl).2
          exact Option.some.inj (f1.symm.trans g4)
        have hadr : H.size = adr E 5 (iN n) (h.1 + 1) := by rw [adr_c (by omega)]; omega
        rw [hadr]
        refine hn _ _ _ _ hf ls H1 locs _ _ (PT_sN hT hmd (by omega) hk (ok1 hT.2.2.1) hszc (by omega) o1 ?_)
        show H1[E.1 + (h.1 + 1)]? = some (vp_cell _ _)
        rw [show E.1 + (h.1 + 1) = H.size by omega, e1, vp_cell_q, hcA]
        congr 2
        funext j
        rw [(new_sN (h := h) j).2.2]
        rfl
      · cases hf
  · cases hf
theorem xObj_s (hx : p.tables.exec = Jvm.exec) (hb : c.code = cc) (hml : c.maxLocals = nL) (hown : s.vm.findClass (cN own) = some m.cls) (hts : ∀ w ∈ TB, w.before args s = true) (hR3 : 1 ≤ R.frames) (hR4 : 40 ≤ R.locals) (hob : inOB own idx = true)
    (hd : decode cc pc = .ok (.invokespecial idx, 3)) (hn : ∀ pc lv st h, next pc lv st h = some r → Gt p l e R s m args below meth c Q E o md n0 nL pc lv st h) (hf : xObj next pc lv st h = some r) : Gt p l e R s m args below meth c Q E o md n0 nL pc lv st h := by
  intro ls H locs cells slots hT
  unfold xObj at hf
  split at hf
  · rename_i rr
    split at hf
    · rename_i hw
      have hw := Nat.le_of_ble_eq_true hw
      refine W.objInit hx hb hown (hts _ (OB_ok hob)) (hts _ (TB_in _ w_oi rfl)) (hts _ (TB_in _ w_oc rfl)) rfl (by rw [hml]; exact hT.1.1) rfl hd hR3 ?_ (hn _ _ _ _ hf _ _ _ _ _ (PT_st hT (ok1 hT.2.2.1)))
      show 2 * 0 + ((rr.map (cv E)).map fun v => v.category).sum + 12 ≤ R.locals
      rw [wd_sum]
      omega
    · cases hf
  · cases hf
theorem HW_cI {H1 : Heap} {locs1 : List Loc} {c0 ce sp dp n : Nat} {e : va_E} {x : Nat} (hk : kOK KDL h.1 1 x ce = true) (hf : md = false → FinOK h) (he : cellK E (cI h c0 ce sp dp n) ce (1, x) = e) (hP : va_P (dE E) vwCl ((wsO E h).set (ce - 1) (E.1 + ce, e)) H1) (hS : va_S (fun q => E.1 < q) s.heap H1 locs1) : HW E md s (cI h c0 ce sp dp n) H1 locs1 := by
  obtain ⟨g1, g2, g3⟩ := kOK_at (by omega) hk
  refine ⟨?_, hS, hf⟩
  rw [ws_set (h' := cI h c0 ce sp dp n) g1 g2 rfl e (by unfold cellE; rw [List.getD_eq_getElem?_getD, g3]; exact he) (fun a ha => cellE_same (funext fun b => by show (if a = ce ∧ _ then _ else _) = _; rw [if_neg (fun q => ha q.1)]; rfl) rfl rfl)] at hP
  exact hP
theorem HW_cJ {H1 : Heap} {locs1 : List Loc} {c0 ce sp dp n : Nat} {e : va_E} {x : Nat} (hk : kOK KDL h.1 2 x ce = true) (hf : md = false → FinOK h) (he : cellK E (cJ h c0 ce sp dp n) ce (2, x) = e) (hP : va_P (dE E) vwCl ((wsO E h).set (ce - 1) (E.1 + ce, e)) H1) (hS : va_S (fun q => E.1 < q) s.heap H1 locs1) : HW E md s (cJ h c0 ce sp dp n) H1 locs1 := by
  obtain ⟨g1, g2, g3⟩ := kOK_at (by omega) hk
  refine ⟨?_, hS, hf⟩
  rw [ws_set (h' := cJ h c0 ce sp dp n) g1 g2 rfl e (by unfold cellE; rw [List.getD_eq_getElem?_getD, g3]; exact he) (fun a ha => cellE_same rfl (funext fun b => by show (if a = ce ∧ _ then _ else _) = _; rw [if_neg (fun q => ha q.1)]; rfl) rfl)] at hP
  exact hP
theorem le_nlt {x : Int32} (h : 0 ≤ x) : ¬ x < 0 := by
  rw [Int32.le_iff_toInt_le] at h
  rw [Int32.lt_iff_toInt_lt]
  omega
theorem xCopy_s (hx : p.tables.exec = Jvm.exec) (hb : c.code = cc) (hml : c.maxLocals = nL) (hE : EnvOK E s) (hown : s.vm.findClass (cN own) = some m.cls) (hts : ∀ w ∈ TB, w.before args s = true) (hR3 : 1 ≤ R.frames) (hR4 : 40 ≤ R.locals) (hac : inAC own idx = true)
    (hd : decode cc pc = .ok (.invokestatic idx, 3)) (hn : ∀ pc lv st h, next pc lv st h = some r → Gt p l e R s m args below meth c Q E o md n0 nL pc lv st h) (hf : xCopy next pc lv st h = some r) : Gt p l e R s m args below meth c Q E o md n0 nL pc lv st h := by
  intro ls H locs cells slots hT
  obtain ⟨hP, hS, hfin⟩ := hT.2.2.2.1
  unfold xCopy at hf
  split at hf
  · rename_i n dp k1 n1 c1 sp k0 n0' c0 rr
    have hk1 := ok0 (ok1 (ok1 hT.2.2.1))
    have hk0 := ok0 (ok1 (ok1 (ok1 (ok1 hT.2.2.1))))
    have hr := ok1 (ok1 (ok1 (ok1 (ok1 hT.2.2.1))))
    split at hf
    · rename_i hw
      rw [Bool.and_eq_true] at hw
      have hw1 := Nat.le_of_ble_eq_true hw.1
      have e1 := Nat.eq_of_beq_eq_true hw.2
      subst e1
      split at hf
      · rename_i hc
        obtain ⟨a1, a2, a3, a4, a5⟩ := hc
        have h0 := okv_k (by omega) hk0
        have h1 := okv_k (by omega) hk1
        refine va_copyi (ty := .int) hx hb (by rw [hml]; exact hT.1.1.symm) hown (hts _ (AC_ok hac)) (hts _ (TB_in _ w_an rfl)) (hts _ (TB_in _ w_as rfl)) (hts _ (TB_in _ w_sy rfl)) hE.1 hP ws_D hS (c0 - 1) (c1 - 1) 0 0 (cell_at (by omega) h0) (cell_at (by omega) h1) rfl rfl rfl (le_nlt a2) (le_nlt a3) (le_nlt a1) a4 a5 (fun _ _ => rfl) hR3 (by rw [wd_sum]; show wd rr + (7 + 11) ≤ _; omega) hd (fun H1 locs1 hP1 _ hS1 => ?_)
        refine hn _ _ _ _ hf _ _ _ _ _ ⟨hT.1, hT.2.1, hr, HW_cI (x := n1) h1 hfin ?_ hP1 hS1, hT.2.2.2.2⟩
        show Sum.inl (_, _, Sum.inl _) = Sum.inl (_, _, Sum.inl _)
        congr 4
        funext b
        show (if c1 = c1 ∧ _ then _ else _) = _
        unfold va_cpy
        simp only [true_and]
        rfl
      · cases hf
    · rename_i hw
      rw [Bool.and_eq_true] at hw
      have hw1 := Nat.le_of_ble_eq_true hw.1
      have e1 := Nat.eq_of_beq_eq_true hw.2
      subst e1
      split at hf
      · rename_i hc
        obtain ⟨a1, a2, a3, a4, a5⟩ := hc
        have h0 := okv_k (by omega) hk0
        have h1 := okv_k (by omega) hk1
        refine va_copyl (ty := .long) hx hb (by rw [hml]; exact hT.1.1.symm) hown (hts _ (AC_ok hac)) (hts _ (TB_in _ w_an rfl)) (hts _ (TB_in _ w_as rfl)) (hts _ (TB_in _ w_sy rfl)) hE.1 hP ws_D hS (c0 - 1) (c1 - 1) 1 1 (cell_at (by omega) h0) (cell_at (by omega) h1) rfl rfl rfl (le_nlt a2) (le_nlt a3) (le_nlt a1) a4 a5 (fun _ _ => rfl) hR3 (by rw [wd_sum]; show wd rr + (7 + 11) ≤ _; omega) hd (fun H1 locs1 hP1 _ hS1 => ?_)
        refine hn _ _ _ _ hf _ _ _ _ _ ⟨hT.1, hT.2.1, hr, HW_cJ (x := n1) h1 hfin ?_ hP1 hS1, hT.2.2.2.2⟩
        show Sum.inl (_, _, Sum.inr (Sum.inl _)) = Sum.inl (_, _, Sum.inr (Sum.inl _))
        congr 5
        funext b
        show (if c1 = c1 ∧ _ then _ else _) = _
        unfold va_cpy
        simp only [true_and]
        rfl
      · cases hf
    · cases hf
  · cases hf
end Steps7
