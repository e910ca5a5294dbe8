def TB : List Cond := lw_tbl.filter goodWord
theorem TB_in {w : Cond} (i : Nat) (h : lw_tbl[i]? = some w) (g : goodWord w = true) : w ∈ TB := List.mem_filter.mpr ⟨List.mem_of_getElem? h, g⟩
theorem TB_good : GoodIn TB TB := fun w h => ⟨h, good_of_word (List.mem_filter.mp h).2⟩
abbrev EV : Type := Nat × Nat × (Nat → Nat) × (Nat → Nat) × (Nat → ClassId) × (Nat → ClassId) × (Nat → Nat → Nat)
def adr (E : EV) (kd x c : Nat) : Nat := if kd = 7 then E.2.1 else if kd = 8 then E.2.2.1 x else if kd = 9 then E.2.2.2.1 x else E.1 + c
def cv (E : EV) : MV → Value
  | .inl x => .int x
  | .inr (.inl x) => .long x
  | .inr (.inr q) => .ref (adr E q.1 q.2.1 q.2.2)
/-- the fields' types, class by class: 0 int, 1 long, 2 reference, 3 boolean -/
def FTY : List (List Nat) := [[0, 0, 0, 2, 2, 2, 2, 2, 2, 2, 2], [2, 2, 2, 0], [0, 0, 2, 2, 2, 2, 2], [2, 2, 2, 2, 2, 0, 2, 2, 2, 0, 0, 0, 2, 2, 2], [1, 1, 1, 1, 1, 1], [2, 2, 2, 2, 0], [2], [2, 0, 0, 0, 0, 0, 0, 0, 0, 2, 2, 1, 0], [2, 2, 2, 0], [2, 0, 0], [0, 0, 0, 3, 0, 0, 0, 0, 2, 2, 2, 2, 2, 0, 0, 0], [2, 2, 2, 2, 2, 2, 2, 2, 2, 1, 1, 2, 0, 0, 0, 0, 0, 0], [0, 1, 1, 2, 2, 2, 2, 2, 0, 0, 0, 0, 0, 0, 0, 0, 0, 2, 2, 2, 2, 2, 2, 2, 2, 2, 2, 2, 0, 0, 0, 0, 0, 0, 2, 2, 2, 2, 2, 0, 2, 2, 2, 2, 2, 0, 0, 1, 0, 0, 0, 0, 2, 2, 2, 2, 2, 2, 2, 2, 1, 1, 1, 1, 1, 1, 0, 0, 2, 2, 2, 2, 2, 2, 2, 0, 2, 2, 2, 0, 0, 2, 2, 0, 2]]
def rfo (E : EV) (r : Nat) : Option Nat := if r = 0 then none else some (E.1 + r)
def fV (E : EV) (h : MH) (c k t : Nat) : Value := match t with
  | 1 => .long (gJ h c k)
  | 2 => va_rf (rfo E (gR h c k))
  | _ => .int (gI h c k)
def fL (E : EV) (h : MH) (c ci : Nat) : List Value := (List.range (FTY.getD ci []).length).map (fun k => fV E h c k ((FTY.getD ci []).getD k 0))
def cellK (E : EV) (h : MH) (c : Nat) (q : Nat × Nat) : va_E := match q with
  | (0, ci) => .inr (ci, fL E h c ci)
  | (2, n) => .inl (E.2.2.2.2.1 2, n, .inr (.inl (gJ h c)))
  | (5, n) => .inl (E.2.2.2.2.1 5, n, .inr (.inr (.inr (.inr (fun j => rfo E (gR h c j))))))
  | (t, n) => .inl (E.2.2.2.2.1 t, n, .inl (gI h c))
def cellE (E : EV) (h : MH) (c : Nat) : va_E := cellK E h c (KDL.getD c (0, 99))
def wsO (E : EV) (h : MH) : va_W := (List.range h.1).map (fun q => (E.1 + (q + 1), cellE E h (q + 1)))
def tysE (E : EV) : List (ClassId × FieldType) := [(E.2.2.2.2.1 1, .int), (E.2.2.2.2.1 2, .long), (E.2.2.2.2.1 3, .byte), (E.2.2.2.2.1 4, .boolean), (E.2.2.2.2.1 5, .object "SlipSheets$Tray")]
abbrev dE (E : EV) : va_G := (E.2.2.2.2.2.1, E.2.2.2.2.2.2)
def szc (q : Nat × Nat) : Nat := if q.1 = 0 then (FTY.getD q.2 []).length else q.2
def ss (n : Nat) : Nat := ((List.range n).map (fun i => szc (KDL.getD (i + 1) (99, 0)))).sum
theorem ss_succ (n : Nat) : ss (n + 1) = ss n + szc (KDL.getD (n + 1) (99, 0)) := by
  unfold ss
  rw [List.range_succ, List.map_append, List.sum_append]
  simp
theorem ss_mono {n k : Nat} (h : n ≤ k) : ss n ≤ ss k := by
  induction k with
  | zero => rw [show n = 0 by omega]; exact Nat.le_refl _
  | succ k ih =>
    rcases Nat.lt_or_ge k n with q | q
    · rw [show n = k + 1 by omega]; exact Nat.le_refl _
    · rw [ss_succ]
      have := ih q
      omega
theorem KD0 : KDL[0]? = some (99, 0) := rfl
theorem ws_at {E : EV} {h : MH} {c : Nat} (h1 : 1 ≤ c) (h2 : c ≤ h.1) : (wsO E h)[c - 1]? = some (E.1 + c, cellE E h c) := by
  unfold wsO
  rw [List.getElem?_map, List.getElem?_range (by omega)]
  simp only [Option.map_some]
  rw [show c - 1 + 1 = c by omega]
theorem ws_len {E : EV} {h : MH} : (wsO E h).length = h.1 := by simp [wsO]
theorem ws_set {E : EV} {h h' : MH} {c : Nat} (h1 : 1 ≤ c) (h2 : c ≤ h.1) (hn : h'.1 = h.1) (e : va_E) (he : cellE E h' c = e) (ho : ∀ a, a ≠ c → cellE E h' a = cellE E h a) : (wsO E h).set (c - 1) (E.1 + c, e) = wsO E h' := by
  apply List.ext_getElem?
  intro i
  rw [List.getElem?_set]
  by_cases hi : c - 1 = i
  · rw [if_pos hi]
    subst hi
    rw [if_pos (by rw [ws_len]; omega), ws_at h1 (by omega), he]
  · rw [if_neg hi]
    unfold wsO
    rw [hn]
    by_cases hl : i < h.1
    · rw [List.getElem?_map, List.getElem?_map, List.getElem?_range hl]
      simp only [Option.map_some]
      rw [ho (i + 1) (by omega)]
    · rw [List.getElem?_eq_none (by simp; omega), List.getElem?_eq_none (by simp; omega)]
theorem ws_push {E : EV} {h h' : MH} (hn : h'.1 = h.1 + 1) (ho : ∀ a, a ≤ h.1 → cellE E h' a = cellE E h a) : wsO E h ++ [(E.1 + (h.1 + 1), cellE E h' (h.1 + 1))] = wsO E h' := by
  unfold wsO
  rw [hn, List.range_succ, List.map_append]
  congr 1
  apply List.map_congr_left
  intro q hq
  rw [ho (q + 1) (by have := List.mem_range.mp hq; omega)]
theorem ws_D {E : EV} {h : MH} : va_D (fun q => E.1 < q) (wsO E h) := by
  refine ⟨fun i j a b ha hb hab => ?_, fun k q hk => ?_⟩
  · unfold wsO at ha hb
    rw [List.getElem?_map] at ha hb
    cases hi : (List.range h.1)[i]? with
    | none => rw [hi] at ha; cases ha
    | some x =>
      cases hj : (List.range h.1)[j]? with
      | none => rw [hj] at hb; cases hb
      | some y =>
        rw [hi] at ha
        rw [hj] at hb
        cases ha
        cases hb
        obtain ⟨g1, g2⟩ := List.getElem?_eq_some_iff.mp hi
        obtain ⟨g3, g4⟩ := List.getElem?_eq_some_iff.mp hj
        rw [List.getElem_range] at g2 g4
        simp only at hab
        omega
  · unfold wsO at hk
    rw [List.getElem?_map] at hk
    cases hi : (List.range h.1)[k]? with
    | none => rw [hi] at hk; cases hk
    | some x =>
      rw [hi] at hk
      cases hk
      show E.1 < E.1 + (x + 1)
      omega
theorem kOK_iff {KD : List (Nat × Nat)} {n kd x c : Nat} : kOK KD n kd x c = true ↔ c ≤ n ∧ KD[c]? = some (kd, x) := by
  unfold kOK
  rw [Bool.and_eq_true]
  constructor
  · rintro ⟨h1, h2⟩
    refine ⟨Nat.le_of_ble_eq_true h1, ?_⟩
    split at h2
    · rename_i q hq
      rw [Bool.and_eq_true] at h2
      rw [hq]
      have e1 := Nat.eq_of_beq_eq_true h2.1
      have e2 := Nat.eq_of_beq_eq_true h2.2
      obtain ⟨a, b⟩ := q
      simp only at e1 e2
      rw [e1, e2]
    · cases h2
  · rintro ⟨h1, h2⟩
    refine ⟨Nat.ble_eq_true_of_le h1, ?_⟩
    rw [h2]
    simp
/-- what a value must be at a place: its cell is there, and of its kind -/
def okv (o : Option Nat) (h : MH) : MV → Prop
  | .inr (.inr (kd, x, c)) => if kd = 7 then o = some x else if kd = 8 ∨ kd = 9 then x < jsB.length else kOK KDL h.1 kd x c = true
  | _ => True
def FINL : List (Nat × Nat × Nat × Nat × Nat) := [(0, 3, 1, 48, 1), (0, 4, 1, 6, 2), (0, 5, 1, 8, 3), (0, 6, 1, 8, 4), (0, 7, 1, 56, 5), (0, 8, 1, 56, 6), (0, 9, 1, 6, 7), (0, 10, 1, 56, 8), (1, 0, 1, 8, 1), (1, 1, 1, 8, 2), (1, 2, 1, 2001, 3), (2, 2, 1, 48, 1), (2, 3, 1, 6, 2), (2, 4, 1, 6, 3), (2, 5, 1, 6, 4), (2, 6, 1, 6, 5), (3, 0, 1, 160, 1), (3, 1, 1, 160, 2), (3, 2, 1, 160, 3), (3, 3, 1, 160, 4), (3, 4, 1, 160, 5), (3, 6, 1, 20, 6), (3, 7, 1, 20, 7), (3, 8, 1, 20, 8), (3, 12, 4, 20, 9), (3, 13, 1, 20, 10), (3, 14, 1, 20, 11), (5, 0, 1, 14, 1), (5, 1, 1, 14, 2), (5, 2, 1, 14, 3), (5, 3, 1, 14, 4), (6, 0, 2, 48, 1), (7, 0, 3, 600, 1), (7, 10, 0, 5, 8), (8, 0, 1, 30, 1), (8, 1, 1, 30, 2), (8, 2, 1, 30, 3), (9, 0, 2, 60, 1), (10, 8, 1, 6, 1), (10, 9, 1, 6, 2), (10, 10, 1, 6, 3), (10, 11, 1, 385, 4), (10, 12, 4, 256, 5), (11, 0, 5, 4, 1), (11, 1, 0, 7, 2), (11, 2, 0, 3, 15), (11, 3, 0, 4, 27), (11, 4, 0, 8, 28), (11, 5, 0, 0, 32), (11, 6, 0, 10, 41), (11, 7, 0, 6, 47), (11, 8, 0, 1, 49), (12, 3, 1, 4, 1), (12, 4, 1, 4, 2), (12, 5, 2, 240, 3), (12, 6, 3, 600, 4), (12, 7, 3, 600, 5), (12, 17, 2, 6, 6), (12, 18, 2, 8, 7), (12, 19, 1, 6, 8), (12, 20, 1, 6, 9), (12, 21, 1, 6, 10), (12, 22, 1, 6, 11), (12, 23, 1, 6, 12), (12, 24, 1, 48, 13), (12, 25, 4, 36, 14), (12, 26, 4, 6, 15), (12, 27, 4, 48, 16), (12, 34, 1, 6, 17), (12, 35, 1, 6, 18), (12, 36, 1, 6, 19), (12, 37, 1, 48, 20), (12, 38, 4, 36, 21), (12, 40, 2, 8, 22), (12, 41, 2, 8, 23), (12, 42, 4, 8, 24), (12, 43, 4, 8, 25), (12, 44, 1, 8, 26), (12, 52, 1, 160, 27), (12, 53, 1, 160, 28), (12, 54, 1, 160, 29), (12, 55, 1, 160, 30), (12, 56, 1, 160, 31), (12, 57, 1, 20, 32), (12, 58, 1, 20, 33), (12, 59, 1, 20, 34), (12, 68, 1, 6, 35), (12, 69, 1, 8, 36), (12, 70, 1, 8, 37), (12, 71, 4, 256, 38), (12, 72, 2, 55, 39), (12, 73, 1, 6, 40), (12, 74, 2, 48, 41), (12, 76, 1, 30, 42), (12, 77, 1, 30, 43), (12, 78, 1, 30, 44), (12, 81, 1, 18009, 45), (12, 82, 1, 8, 46), (12, 84, 1, 8, 47)]
def DYNL : List (Nat × Nat × Nat × Nat) := [(7, 9, 0, 2), (11, 11, 0, 2)]
/-- once all is made: references that never change are where the layout has them, the others are of their kinds -/
def FinOK (h : MH) : Prop := h.1 = 115 ∧ (∀ q ∈ FINL, ∀ c, KDL[c]? = some (0, q.1) → gR h c q.2.1 = c + q.2.2.2.2) ∧ (∀ q ∈ DYNL, ∀ c, KDL[c]? = some (0, q.1) → kOK KDL h.1 q.2.2.1 q.2.2.2 (gR h c q.2.1) = true) ∧ ∀ c n, KDL[c]? = some (5, n) → ∀ j, j < n → kOK KDL h.1 0 9 (gR h c j) = true
def HW (E : EV) (md : Bool) (s : State) (h : MH) (H : Heap) (locs : List Loc) : Prop := va_P (dE E) vwCl (wsO E h) H ∧ va_S (fun q => E.1 < q) s.heap H locs ∧ (md = false → FinOK h)
def cvL (E : EV) (lv : ML) : List (Nat × Value) := lv.map (fun q => (q.1, cv E q.2))
def PT (E : EV) (o : Option Nat) (md : Bool) (n0 nL : Nat) (s : State) (lv : ML) (st : List MV) (h : MH) (ls : Array Slot) (H : Heap) (locs : List Loc) (cells slots : Nat) : Prop :=
  lv_has ls nL (cvL E lv) ∧ (∀ q ∈ lv, okv o h q.2) ∧ (∀ v ∈ st, okv o h v) ∧ HW E md s h H locs ∧ cells + n0 = h.1 ∧ slots + ss n0 = ss h.1
def Gt (p : Program) (l : Launch) (e : Env) (R : Room) (s : State) (m : MethodId) (args : Array Value) (below : List Frame) (meth : Method) (c : Code) (Q : State → Prop) (E : EV) (o : Option Nat) (md : Bool) (n0 nL : Nat) (pc : Nat) (lv : ML) (st : List MV) (h : MH) : Prop :=
  ∀ ls H locs cells slots, PT E o md n0 nL s lv st h ls H locs cells slots → W p l e R s m args below meth c H locs cells slots Q (F0 m pc ls (st.map (cv E)))
theorem cv_cat (E : EV) (v : MV) : (cv E v).category = if is2 v = true then 2 else 1 := by
  rcases v with x | x | x <;> simp [cv, is2, Value.category]
theorem beqN (a b : Nat) : (a == b) = Nat.beq a b := Bool.eq_iff_iff.mpr (by rw [beq_iff_eq]; exact ⟨fun h => by rw [h]; exact Nat.beq_refl b, Nat.eq_of_beq_eq_true⟩)
theorem cvL_st1 (E : EV) (lv : ML) (i : Nat) (v : MV) : (i, cv E v) :: (cvL E lv).filter (fun q => !(q.1 == i) && !(q.1 + 1 == i && q.2.category == 2)) = cvL E (st1 lv i v) := by
  unfold st1 cvL
  rw [List.map_cons, List.filter_map]
  congr 2
  apply List.filter_congr
  intro q _
  simp only [Function.comp, cv_cat, beqN]
  cases is2 q.2 <;> rfl
theorem cvL_st2 (E : EV) (lv : ML) (i : Nat) (v : MV) : (i, cv E v) :: (cvL E lv).filter (fun q => !(q.1 == i) && (!(q.1 == i + 1) && !(q.1 + 1 == i && q.2.category == 2))) = cvL E (st2 lv i v) := by
  unfold st2 cvL
  rw [List.map_cons, List.filter_map]
  congr 2
  apply List.filter_congr
  intro q _
  simp only [Function.comp, cv_cat, beqN]
  cases is2 q.2 <;> rfl
theorem lk_mem : ∀ (lv : ML) (k : Nat) (v : MV), lk lv k = some v → (k, v) ∈ lv
  | [], _, _, h => by cases h
  | q :: r, k, v, h => by
    unfold lk at h
    split at h
    · rename_i hb
      have := Nat.eq_of_beq_eq_true hb
      cases h
      rw [← this]
      exact List.mem_cons_self
    · exact List.mem_cons_of_mem _ (lk_mem r k v h)
theorem st1_mem {lv : ML} {i : Nat} {v : MV} {q : Nat × MV} (h : q ∈ st1 lv i v) : q = (i, v) ∨ q ∈ lv := by
  unfold st1 at h
  rcases List.mem_cons.mp h with h | h
  · exact Or.inl h
  · exact Or.inr (List.mem_filter.mp h).1
theorem st2_mem {lv : ML} {i : Nat} {v : MV} {q : Nat × MV} (h : q ∈ st2 lv i v) : q = (i, v) ∨ q ∈ lv := by
  unfold st2 at h
  rcases List.mem_cons.mp h with h | h
  · exact Or.inl h
  · exact Or.inr (List.mem_filter.mp h).1
theorem wd_sum (E : EV) : ∀ st : List MV, ((st.map (cv E)).map fun v => v.category).sum = wd st
  | [] => rfl
  | v :: r => by
    rw [List.map_cons, List.map_cons, List.sum_cons, wd_sum E r, cv_cat]
    rfl
