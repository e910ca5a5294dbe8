
def SREF : List (String × Nat × String × Nat) := [("SlipSheets$Reader", 99, "sheet", 0), ("SlipSheets$Reader", 105, "cells", 1), ("SlipSheets$Reader", 107, "saves", 2), ("SlipSheets$Reader", 109, "mark", 3), ("SlipSheets$Reader", 111, "near", 4), ("SlipSheets$Reader", 113, "moves", 5), ("SlipSheets$Reader", 115, "stuck", 6), ("SlipSheets$Reader", 117, "from", 7), ("SlipSheets$Reader", 119, "to", 8), ("SlipSheetsModel", 238, " sheet mark near moves stuck cells saves from to ", 9)]
def isNest : Cond → Bool
  | .fieldLinkNest .. => true
  | .methodLinkNest .. => true
  | _ => false
/-- what stands in a state beside the cells: classes, texts, links among nest mates, one static -/
def EnvOK (E : EV) (U : State) : Prop := va_K (dE E) vwCl (tysE E) U ∧ vk_S jsB.length (jsB.map List.length) jsB E.2.2.1 E.2.2.2.1 (fun q => E.1 < q) U U.heap ∧ (∀ q ∈ SREF, vk_R q.1 q.2.1 q.2.2.1 (E.2.2.1 q.2.2.2) U) ∧ va_Z "java/lang/String" "COMPACT_STRINGS" "Z" (.int 1) (fun q => E.1 < q) U U.heap ∧ (∀ w ∈ lw_tbl, isNest w = true → va_Nw w U) ∧ va_AO "SlipSheets$Tray" U ∧ va_Zq "jdk/internal/util/Preconditions" "SIOOBE_FORMATTER" "Ljava/util/function/BiFunction;" (fun q => E.1 < q) U U.heap
theorem KDv : ∀ q ∈ KDL, q.1 ≤ 5 ∨ q.1 = 99 := by decide +kernel
theorem kOK_at {n kd x c : Nat} (h5 : kd ≤ 5) (hk : kOK KDL n kd x c = true) : 1 ≤ c ∧ c ≤ n ∧ KDL[c]? = some (kd, x) := by
  obtain ⟨h1, h2⟩ := kOK_iff.mp hk
  refine ⟨?_, h1, h2⟩
  rcases Nat.eq_zero_or_pos c with rfl | h
  · rw [KD0] at h2
    cases h2
    omega
  · exact h
theorem okv_k {o : Option Nat} {h : MH} {kd x c : Nat} (h5 : kd ≤ 5) (hk : okv o h (.inr (.inr (kd, x, c)))) : kOK KDL h.1 kd x c = true := by
  unfold okv at hk
  dsimp only at hk
  rw [if_neg (by omega), if_neg (by omega)] at hk
  exact hk
theorem okv_mk {o : Option Nat} {h : MH} {kd x c : Nat} (h5 : kd ≤ 5) (hk : kOK KDL h.1 kd x c = true) : okv o h (.inr (.inr (kd, x, c))) := by
  unfold okv
  dsimp only
  rw [if_neg (by omega), if_neg (by omega)]
  exact hk
theorem adr_c {E : EV} {kd x c : Nat} (h5 : kd ≤ 5) : adr E kd x c = E.1 + c := by
  unfold adr
  rw [if_neg (by omega), if_neg (by omega), if_neg (by omega)]
theorem cell_at {E : EV} {h : MH} {kd x c : Nat} (h5 : kd ≤ 5) (hk : kOK KDL h.1 kd x c = true) : (wsO E h)[c - 1]? = some (E.1 + c, cellK E h c (kd, x)) := by
  obtain ⟨h1, h2, h3⟩ := kOK_at h5 hk
  rw [ws_at h1 h2]
  unfold cellE
  rw [List.getD_eq_getElem?_getD, h3]
  rfl
theorem va_rf_c {E : EV} {kt xt r : Nat} (h5 : kt ≤ 5) (h0 : 1 ≤ r) : va_rf (rfo E r) = cv E (.inr (.inr (kt, xt, r))) := by
  unfold rfo
  rw [if_neg (by omega)]
  show Value.ref (E.1 + r) = Value.ref (adr E kt xt r)
  rw [adr_c h5]
theorem jsB_len (n : Nat) : (jsB.map List.length).getD n 0 = (jsB.getD n []).length := by
  rw [List.getD_eq_getElem?_getD, List.getElem?_map, List.getD_eq_getElem?_getD]
  cases jsB[n]? <;> rfl
section Steps2
variable {p : Program} {l : Launch} {e : Env} {R : Room} {s : State} {m : MethodId} {args : Array Value} {below : List Frame} {meth : Method} {c : Code} {Q : State → Prop} {cc : ByteArray} {E : EV} {o : Option Nat} {md : Bool} {n0 nL lim : Nat} {RT : Type} {next : Nat → ML → List MV → MH → Option RT} {r : RT} {pc : Nat} {lv : ML} {st : List MV} {h : MH} {C : MC}
theorem kOK_take {n kd x c : Nat} (hk : kOK (KDL.take (lim + 1)) n kd x c = true) : kOK KDL n kd x c = true ∧ c ≤ lim := by
  obtain ⟨h1, h2⟩ := kOK_iff.mp hk
  rw [List.getElem?_take] at h2
  split at h2
  · exact ⟨kOK_iff.mpr ⟨h1, h2⟩, by omega⟩
  · cases h2
theorem xAld_s {t : Nat} (hx : p.tables.exec = Jvm.exec) (hb : c.code = cc) (hE : EnvOK E s) (hC1 : C.1 = KDL.take (lim + 1)) (hC2 : C.2.1 = md) (hC4 : C.2.2.2.1 = jsB) (hscr : ∀ L, o = some L → va_X E.2.1 L C.2.2.1 s s.heap ∧ E.2.1 < s.heap.size ∧ ¬ E.1 < E.2.1)
    (hd : decode cc pc = .ok (if t = 1 then .iaload else if t = 2 then .laload else if t = 3 then .baload else .aaload, 1)) (hn : ∀ pc lv st h, next pc lv st h = some r → Gt p l e R s m args below meth c Q E o md n0 nL pc lv st h) (hf : xAld C next t pc lv st h = some r) : Gt p l e R s m args below meth c Q E o md n0 nL pc lv st h := by
  intro ls H locs cells slots hT
  obtain ⟨hP, hS, hfin⟩ := hT.2.2.2.1
  unfold xAld at hf
  split at hf
  · rename_i i kd n ce rr
    have hk0 := ok0 (ok1 hT.2.2.1)
    have hr := ok1 (ok1 hT.2.2.1)
    split at hf
    · split at hf
      · rename_i hi
        have hk := okv_k (by omega) hk0
        show W p l e R s m args below meth c H locs cells slots Q (F0 m pc ls (.int i :: .ref (E.1 + ce) :: rr.map (cv E)))
        exact va_iald hx hb hE.1 hP (ce - 1) 0 (cell_at (by omega) hk) rfl (inB_in hi) hd (hn _ _ _ _ hf _ _ _ _ _ (PT_st hT (okc trivial hr)))
      · cases hf
    · split at hf
      · rename_i hi
        obtain ⟨g1, g2, g3⟩ := hscr n hk0
        show W p l e R s m args below meth c H locs cells slots Q (F0 m pc ls (.int i :: .ref E.2.1 :: rr.map (cv E)))
        exact va_sld hx hb g1 g2 g3 hS (inB_in hi) hd (hn _ _ _ _ hf _ _ _ _ _ (PT_st hT (okc trivial hr)))
      · cases hf
    · split at hf
      · rename_i hi
        have hk := okv_k (by omega) hk0
        show W p l e R s m args below meth c H locs cells slots Q (F0 m pc ls (.int i :: .ref (E.1 + ce) :: rr.map (cv E)))
        exact va_lald hx hb hE.1 hP (ce - 1) 1 (cell_at (by omega) hk) rfl (inB_in hi) hd (hn _ _ _ _ hf _ _ _ _ _ (PT_st hT (okc trivial hr)))
      · cases hf
    · split at hf
      · rename_i hi
        have hk := okv_k (by omega) hk0
        show W p l e R s m args below meth c H locs cells slots Q (F0 m pc ls (.int i :: .ref (E.1 + ce) :: rr.map (cv E)))
        exact va_bald hx hb hE.1 hP (ce - 1) 2 (cell_at (by omega) hk) rfl (inB_in hi) hd (hn _ _ _ _ hf _ _ _ _ _ (PT_st hT (okc trivial hr)))
      · cases hf
    · split at hf
      · rename_i hi
        have hk := okv_k (by omega) hk0
        show W p l e R s m args below meth c H locs cells slots Q (F0 m pc ls (.int i :: .ref (E.1 + ce) :: rr.map (cv E)))
        exact va_zald hx hb hE.1 hP (ce - 1) 3 (cell_at (by omega) hk) rfl (inB_in hi) hd (hn _ _ _ _ hf _ _ _ _ _ (PT_st hT (okc trivial hr)))
      · cases hf
    · split at hf
      · rename_i hi
        rw [hC4] at hi hf
        have hk : n < jsB.length := hk0
        have g := (hE.2.1.1 n hk).2.2.2
        rw [jsB_len] at g
        show W p l e R s m args below meth c H locs cells slots Q (F0 m pc ls (.int i :: .ref (E.2.2.2.1 n) :: rr.map (cv E)))
        exact va_tb hx hb g hS (inB_in hi) rfl hd (hn _ _ _ _ hf _ _ _ _ _ (PT_st hT (okc trivial hr)))
      · cases hf
    · split at hf
      · rename_i hi
        have hk := okv_k (by omega) hk0
        have hkk : kOK KDL h.1 0 9 (gR h ce (iN i)) = true ∧ next (pc + 1) lv (.inr (.inr (0, 9, gR h ce (iN i))) :: rr) h = some r := by
          split at hf
          · rename_i hm
            have hm2 := hfin (by rw [← hC2]; exact hm)
            refine ⟨hm2.2.2.2 ce n (kOK_at (by omega) hk).2.2 (iN i) ?_, hf⟩
            have := inB_in hi
            unfold vp_in at this
            exact Nat.not_le.mp (fun q => this (Or.inr q))
          · split at hf
            · rename_i hq
              rw [hC1] at hq
              exact ⟨(kOK_take hq).1, hf⟩
            · cases hf
        have hv := va_rf_c (E := E) (kt := 0) (xt := 9) (by omega) (kOK_at (by omega) hkk.1).1
        show W p l e R s m args below meth c H locs cells slots Q (F0 m pc ls (.int i :: .ref (E.1 + ce) :: rr.map (cv E)))
        refine va_aldq hx hb hE.1 hP (ce - 1) 4 (cell_at (by omega) hk) rfl (inB_in hi) hd ?_
        rw [show iN i = i.toNatClampNeg from rfl] at hv hkk
        rw [hv]
        exact hn _ _ _ _ hkk.2 _ _ _ _ _ (PT_st hT (okc (okv_mk (by omega) hkk.1) hr))
      · cases hf
    · cases hf
  · cases hf
theorem xLen_s (hx : p.tables.exec = Jvm.exec) (hb : c.code = cc) (hE : EnvOK E s) (hC4 : C.2.2.2.1 = jsB) (hscr : ∀ L, o = some L → va_X E.2.1 L C.2.2.1 s s.heap ∧ E.2.1 < s.heap.size ∧ ¬ E.1 < E.2.1)
    (hd : decode cc pc = .ok (.arraylength, 1)) (hn : ∀ pc lv st h, next pc lv st h = some r → Gt p l e R s m args below meth c Q E o md n0 nL pc lv st h) (hf : xLen C next pc lv st h = some r) : Gt p l e R s m args below meth c Q E o md n0 nL pc lv st h := by
  intro ls H locs cells slots hT
  obtain ⟨hP, hS, hfin⟩ := hT.2.2.2.1
  unfold xLen at hf
  split at hf
  · rename_i kd n ce rr
    have hk0 := ok0 hT.2.2.1
    have hnx : ∀ k, next (pc + 1) lv (.inl (nI k) :: rr) h = some r → W p l e R s m args below meth c H locs cells slots Q (F0 m (pc + 1) ls (.int (nI k) :: rr.map (cv E))) := fun k hf => hn _ _ _ _ hf _ _ _ _ _ (PT_st hT (okc trivial (ok1 hT.2.2.1)))
    split at hf
    · exact va_alen (x := (n, .inl (gI h ce))) (t0 := 0) hx hb hE.1 hP (ce - 1) (cell_at (kd := 1) (by omega) (okv_k (by omega) hk0)) rfl rfl hd (hnx n hf)
    · exact va_alen (x := (n, .inr (.inl (gJ h ce)))) (t0 := 1) hx hb hE.1 hP (ce - 1) (cell_at (kd := 2) (by omega) (okv_k (by omega) hk0)) rfl rfl hd (hnx n hf)
    · exact va_alen (x := (n, .inl (gI h ce))) (t0 := 2) hx hb hE.1 hP (ce - 1) (cell_at (kd := 3) (by omega) (okv_k (by omega) hk0)) rfl rfl hd (hnx n hf)
    · exact va_alen (x := (n, .inl (gI h ce))) (t0 := 3) hx hb hE.1 hP (ce - 1) (cell_at (kd := 4) (by omega) (okv_k (by omega) hk0)) rfl rfl hd (hnx n hf)
    · exact va_alen (x := (n, .inr (.inr (.inr (.inr (fun j => rfo E (gR h ce j))))))) (t0 := 4) hx hb hE.1 hP (ce - 1) (cell_at (kd := 5) (by omega) (okv_k (by omega) hk0)) rfl rfl hd (hnx n hf)
    · obtain ⟨g1, g2, g3⟩ := hscr n hk0
      exact va_slen hx hb g1 g2 g3 hS hd (hnx n hf)
    · rw [hC4] at hf
      have hk : n < jsB.length := hk0
      have g := (hE.2.1.1 n hk).2.2.2
      rw [jsB_len] at g
      exact va_tlen hx hb g hS rfl hd (hnx _ hf)
    · cases hf
  · cases hf
end Steps2
