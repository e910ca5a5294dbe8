
theorem gI_sI (h : MH) (c k : Nat) (v : Int32) (a b : Nat) : gI (sI h c k v) a b = if a = c ∧ b = k then v else gI h a b := rfl
theorem gJ_sJ (h : MH) (c k : Nat) (v : Int64) (a b : Nat) : gJ (sJ h c k v) a b = if a = c ∧ b = k then v else gJ h a b := rfl
theorem gR_sR (h : MH) (c k : Nat) (v : Nat) (a b : Nat) : gR (sR h c k v) a b = if a = c ∧ b = k then v else gR h a b := rfl
theorem fL_get {E : EV} {h : MH} {c ci k t : Nat} (hk : k < (FTY.getD ci []).length) (ht : (FTY.getD ci []).getD k 0 = t) : (fL E h c ci)[k]? = some (fV E h c k t) := by
  unfold fL
  rw [List.getElem?_map, List.getElem?_range hk]
  simp only [Option.map_some]
  rw [ht]
theorem fL_len {E : EV} {h : MH} {c ci : Nat} : (fL E h c ci).length = (FTY.getD ci []).length := by simp [fL]
/-- a field is set: the list of fields -/
theorem fL_set {E : EV} {h h' : MH} {c ci k t : Nat} {v : Value} (hk : k < (FTY.getD ci []).length) (ht : (FTY.getD ci []).getD k 0 = t) (hv : fV E h' c k t = v) (ho : ∀ j t', j ≠ k → fV E h' c j t' = fV E h c j t') : (fL E h c ci).set k v = fL E h' c ci := by
  apply List.ext_getElem?
  intro j
  rw [List.getElem?_set]
  by_cases hj : k = j
  · subst hj
    rw [if_pos rfl, if_pos (by rw [fL_len]; exact hk), fL_get hk ht, hv]
  · rw [if_neg hj]
    by_cases hl : j < (FTY.getD ci []).length
    · rw [fL_get hl rfl, fL_get hl rfl, ho j _ (fun q => hj q.symm)]
    · rw [List.getElem?_eq_none (by rw [fL_len]; omega), List.getElem?_eq_none (by rw [fL_len]; omega)]
theorem fL_same {E : EV} {h h' : MH} {c ci : Nat} (ho : ∀ j t', fV E h' c j t' = fV E h c j t') : fL E h' c ci = fL E h c ci := by
  unfold fL
  apply List.map_congr_left
  intro j _
  exact ho j _
theorem fV_I {E : EV} {h h' : MH} {c k : Nat} (h1 : gI h' c k = gI h c k) (h2 : gJ h' c k = gJ h c k) (h3 : gR h' c k = gR h c k) (t : Nat) : fV E h' c k t = fV E h c k t := by
  unfold fV
  rw [h1, h2, h3]
theorem cellK_same {E : EV} {h h' : MH} {c : Nat} (h1 : gI h' c = gI h c) (h2 : gJ h' c = gJ h c) (h3 : gR h' c = gR h c) (q : Nat × Nat) : cellK E h' c q = cellK E h c q := by
  have e : ∀ ci, fL E h' c ci = fL E h c ci := fun ci => fL_same (fun j t' => fV_I (congrFun h1 j) (congrFun h2 j) (congrFun h3 j) t')
  unfold cellK
  split
  · rw [e]
  · rw [h2]
  · rw [h3]
  · rw [h1]
theorem cellE_same {E : EV} {h h' : MH} {c : Nat} (h1 : gI h' c = gI h c) (h2 : gJ h' c = gJ h c) (h3 : gR h' c = gR h c) : cellE E h' c = cellE E h c := cellK_same h1 h2 h3 _
theorem row_sI {h : MH} {c k : Nat} {v : Int32} {a : Nat} (ha : a ≠ c) : gI (sI h c k v) a = gI h a := funext fun b => by rw [gI_sI, if_neg (fun q => ha q.1)]
theorem row_sJ {h : MH} {c k : Nat} {v : Int64} {a : Nat} (ha : a ≠ c) : gJ (sJ h c k v) a = gJ h a := funext fun b => by rw [gJ_sJ, if_neg (fun q => ha q.1)]
theorem row_sR {h : MH} {c k : Nat} {v : Nat} {a : Nat} (ha : a ≠ c) : gR (sR h c k v) a = gR h a := funext fun b => by rw [gR_sR, if_neg (fun q => ha q.1)]
theorem upd_sI {h : MH} {c k : Nat} {v : Int32} : upd (gI h c) k v = gI (sI h c k v) c := funext fun b => by
  rw [gI_sI]
  unfold upd
  by_cases hb : b = k <;> simp [hb]
theorem upd_sJ {h : MH} {c k : Nat} {v : Int64} : vp_updL (gJ h c) k v = gJ (sJ h c k v) c := funext fun b => by
  rw [gJ_sJ]
  unfold vp_updL
  by_cases hb : b = k <;> simp [hb]
theorem upd_sR {E : EV} {h : MH} {c k : Nat} {v : Nat} (hv : 1 ≤ v) : va_up (fun j => rfo E (gR h c j)) k (some (E.1 + v)) = fun j => rfo E (gR (sR h c k v) c j) := funext fun b => by
  rw [gR_sR]
  unfold va_up
  by_cases hb : b = k
  · simp [hb, rfo]
    omega
  · simp [hb]
theorem FinOK_sI {h : MH} {c k : Nat} {v : Int32} (hf : FinOK h) : FinOK (sI h c k v) := hf
theorem FinOK_sJ {h : MH} {c k : Nat} {v : Int64} (hf : FinOK h) : FinOK (sJ h c k v) := hf
theorem vp_nar_bool (x : Int32) : vp_nar .boolean x = x &&& 1 := by
  unfold vp_nar
  first | rfl | simp [narrow]
section Steps3
variable {p : Program} {l : Launch} {e : Env} {R : Room} {s : State} {m : MethodId} {args : Array Value} {below : List Frame} {meth : Method} {c : Code} {Q : State → Prop} {cc : ByteArray} {E : EV} {o : Option Nat} {md : Bool} {n0 nL lim : Nat} {RT : Type} {next : Nat → ML → List MV → MH → Option RT} {r : RT} {pc : Nat} {lv : ML} {st : List MV} {h : MH} {C : MC}
theorem HW_sI {H H1 : Heap} {locs1 : List Loc} {ce k : Nat} {v : Int32} {e : va_E} {kd x : Nat} (h5 : kd ≤ 5) (hk : kOK KDL h.1 kd x ce = true) (hf : md = false → FinOK h) (he : cellK E (sI h ce k v) ce (kd, x) = e) (hP : va_P (dE E) vwCl ((wsO E h).set (ce - 1) (E.1 + ce, e)) H1) (hS : va_S (fun q => E.1 < q) s.heap H1 locs1) : HW E md s (sI h ce k v) H1 locs1 := by
  obtain ⟨g1, g2, g3⟩ := kOK_at h5 hk
  refine ⟨?_, hS, hf⟩
  rw [ws_set (h' := sI h ce k v) g1 g2 rfl e (by unfold cellE; rw [List.getD_eq_getElem?_getD, g3]; exact he) (fun a ha => cellE_same (row_sI ha) rfl rfl)] at hP
  exact hP
theorem HW_sJ {H1 : Heap} {locs1 : List Loc} {ce k : Nat} {v : Int64} {e : va_E} {kd x : Nat} (h5 : kd ≤ 5) (hk : kOK KDL h.1 kd x ce = true) (hf : md = false → FinOK h) (he : cellK E (sJ h ce k v) ce (kd, x) = e) (hP : va_P (dE E) vwCl ((wsO E h).set (ce - 1) (E.1 + ce, e)) H1) (hS : va_S (fun q => E.1 < q) s.heap H1 locs1) : HW E md s (sJ h ce k v) H1 locs1 := by
  obtain ⟨g1, g2, g3⟩ := kOK_at h5 hk
  refine ⟨?_, hS, hf⟩
  rw [ws_set (h' := sJ h ce k v) g1 g2 rfl e (by unfold cellE; rw [List.getD_eq_getElem?_getD, g3]; exact he) (fun a ha => cellE_same rfl (row_sJ ha) rfl)] at hP
  exact hP
theorem HW_sR {H1 : Heap} {locs1 : List Loc} {ce k v : Nat} {e : va_E} {kd x : Nat} (h5 : kd ≤ 5) (hk : kOK KDL h.1 kd x ce = true) (hf : md = false → FinOK (sR h ce k v)) (he : cellK E (sR h ce k v) ce (kd, x) = e) (hP : va_P (dE E) vwCl ((wsO E h).set (ce - 1) (E.1 + ce, e)) H1) (hS : va_S (fun q => E.1 < q) s.heap H1 locs1) : HW E md s (sR h ce k v) H1 locs1 := by
  obtain ⟨g1, g2, g3⟩ := kOK_at h5 hk
  refine ⟨?_, hS, hf⟩
  rw [ws_set (h' := sR h ce k v) g1 g2 rfl e (by unfold cellE; rw [List.getD_eq_getElem?_getD, g3]; exact he) (fun a ha => cellE_same rfl rfl (row_sR ha))] at hP
  exact hP
theorem TB_cut (l : List Cond) (a b : Nat) (h : ∀ w ∈ (l.drop a).take b, w ∈ TB) (h2 : ∀ w ∈ l.drop (a + b), w ∈ TB) : ∀ w ∈ l.drop a, w ∈ TB := by
  intro w hw
  rw [← List.take_append_drop b (l.drop a), List.drop_drop] at hw
  exact (List.mem_append.mp hw).elim (h w) (h2 w)
theorem TB_cut0 (l : List Cond) (h : ∀ w ∈ l.drop 0, w ∈ TB) : ∀ w ∈ l, w ∈ TB := h
theorem cls12_s0 : ∀ w ∈ ((u_ws RX12 TX12 85).drop 0).take 10, w ∈ TB := by decide +kernel
theorem cls12_s1 : ∀ w ∈ ((u_ws RX12 TX12 85).drop 10).take 10, w ∈ TB := by decide +kernel
theorem cls12_s2 : ∀ w ∈ ((u_ws RX12 TX12 85).drop 20).take 10, w ∈ TB := by decide +kernel
theorem cls12_s3 : ∀ w ∈ ((u_ws RX12 TX12 85).drop 30).take 10, w ∈ TB := by decide +kernel
theorem cls12_s4 : ∀ w ∈ ((u_ws RX12 TX12 85).drop 40).take 10, w ∈ TB := by decide +kernel
theorem cls12_s5 : ∀ w ∈ ((u_ws RX12 TX12 85).drop 50).take 10, w ∈ TB := by decide +kernel
theorem cls12_s6 : ∀ w ∈ ((u_ws RX12 TX12 85).drop 60).take 10, w ∈ TB := by decide +kernel
theorem cls12_s7 : ∀ w ∈ ((u_ws RX12 TX12 85).drop 70).take 10, w ∈ TB := by decide +kernel
theorem cls12_s8 : ∀ w ∈ ((u_ws RX12 TX12 85).drop 80).take 10, w ∈ TB := by decide +kernel
theorem cls12_e : ∀ w ∈ (u_ws RX12 TX12 85).drop 90, w ∈ TB := by decide +kernel
theorem cls12 : ∀ w ∈ (u_ws RX12 TX12 85), w ∈ TB := TB_cut0 (u_ws RX12 TX12 85) (TB_cut (u_ws RX12 TX12 85) 0 10 cls12_s0 (TB_cut (u_ws RX12 TX12 85) 10 10 cls12_s1 (TB_cut (u_ws RX12 TX12 85) 20 10 cls12_s2 (TB_cut (u_ws RX12 TX12 85) 30 10 cls12_s3 (TB_cut (u_ws RX12 TX12 85) 40 10 cls12_s4 (TB_cut (u_ws RX12 TX12 85) 50 10 cls12_s5 (TB_cut (u_ws RX12 TX12 85) 60 10 cls12_s6 (TB_cut (u_ws RX12 TX12 85) 70 10 cls12_s7 (TB_cut (u_ws RX12 TX12 85) 80 10 cls12_s8 cls12_e)))))))))
theorem CLS1 : ∀ (ci : Nat) (C : String) (T : u_T) (N : Nat), vwCl[ci]? = some (C, T, N) → (∀ w ∈ u_ws C T N, w ∈ TB) := by
  intro ci C T N h
  have : ∀ q ∈ vwCl, ∀ w ∈ u_ws q.1 q.2.1 q.2.2, w ∈ TB := by
    intro q hq
    simp only [vwCl, List.mem_cons, List.not_mem_nil, or_false] at hq
    rcases hq with rfl | rfl | rfl | rfl | rfl | rfl | rfl | rfl | rfl | rfl | rfl | rfl | rfl
    · decide +kernel
    · decide +kernel
    · decide +kernel
    · decide +kernel
    · decide +kernel
    · decide +kernel
    · decide +kernel
    · decide +kernel
    · decide +kernel
    · decide +kernel
    · decide +kernel
    · decide +kernel
    · exact cls12
  exact this (C, T, N) (List.mem_of_getElem? h)
def tcode : FieldType → Nat
  | .int => 0
  | .long => 1
  | .object _ => 2
  | .array _ => 2
  | .boolean => 3
  | _ => 9
theorem CLS2 : ∀ (ci : Nat) (C : String) (T : u_T) (N : Nat), vwCl[ci]? = some (C, T, N) → (FTY.getD ci []).length = N ∧ (∃ ty0 : Nat → FieldType, (∀ k, k < N → parseFieldDescriptor (T k).2.2.1 = some (ty0 k)) ∧ ∀ k, k < N → tcode (ty0 k) = (FTY.getD ci []).getD k 0) ∧ (∀ a, a < N → ∀ b, b < N → a ≠ b → (T a).2.1 ≠ (T b).2.1) ∧ (∀ k, k < N → (T k).1 = C) := by
  intro ci C T N h
  have hl : ci < 13 := (List.getElem?_eq_some_iff.mp h).1
  rcases (show ci = 0 ∨ ci = 1 ∨ ci = 2 ∨ ci = 3 ∨ ci = 4 ∨ ci = 5 ∨ ci = 6 ∨ ci = 7 ∨ ci = 8 ∨ ci = 9 ∨ ci = 10 ∨ ci = 11 ∨ ci = 12 by omega) with rfl | rfl | rfl | rfl | rfl | rfl | rfl | rfl | rfl | rfl | rfl | rfl | rfl
  · cases h; exact ⟨by decide +kernel, ⟨tyX0, tyX0_ok, by decide +kernel⟩, nmX0, by decide +kernel⟩
  · cases h; exact ⟨by decide +kernel, ⟨tyX1, tyX1_ok, by decide +kernel⟩, nmX1, by decide +kernel⟩
  · cases h; exact ⟨by decide +kernel, ⟨tyX2, tyX2_ok, by decide +kernel⟩, nmX2, by decide +kernel⟩
  · cases h; exact ⟨by decide +kernel, ⟨tyX3, tyX3_ok, by decide +kernel⟩, nmX3, by decide +kernel⟩
  · cases h; exact ⟨by decide +kernel, ⟨tyX4, tyX4_ok, by decide +kernel⟩, nmX4, by decide +kernel⟩
  · cases h; exact ⟨by decide +kernel, ⟨tyX5, tyX5_ok, by decide +kernel⟩, nmX5, by decide +kernel⟩
  · cases h; exact ⟨by decide +kernel, ⟨tyX6, tyX6_ok, by decide +kernel⟩, nmX6, by decide +kernel⟩
  · cases h; exact ⟨by decide +kernel, ⟨tyX7, tyX7_ok, by decide +kernel⟩, nmX7, by decide +kernel⟩
  · cases h; exact ⟨by decide +kernel, ⟨tyX8, tyX8_ok, by decide +kernel⟩, nmX8, by decide +kernel⟩
  · cases h; exact ⟨by decide +kernel, ⟨tyX9, tyX9_ok, by decide +kernel⟩, nmX9, by decide +kernel⟩
  · cases h; exact ⟨by decide +kernel, ⟨tyX10, tyX10_ok, by decide +kernel⟩, nmX10, by decide +kernel⟩
  · cases h; exact ⟨by decide +kernel, ⟨tyX11, tyX11_ok, by decide +kernel⟩, nmX11, by decide +kernel⟩
  · cases h; exact ⟨by decide +kernel, ⟨tyX12, tyX12_ok, by decide +kernel⟩, nmX12, by decide +kernel⟩
end Steps3
