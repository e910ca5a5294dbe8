
theorem okc {o : Option Nat} {h : MH} {v : MV} {rr : List MV} (a : okv o h v) (b : ∀ w ∈ rr, okv o h w) : ∀ w ∈ v :: rr, okv o h w := fun w hw => by
  rcases List.mem_cons.mp hw with rfl | hw
  · exact a
  · exact b w hw
theorem ok1 {o : Option Nat} {h : MH} {v : MV} {rr : List MV} (b : ∀ w ∈ v :: rr, okv o h w) : ∀ w ∈ rr, okv o h w := fun w hw => b w (List.mem_cons_of_mem _ hw)
theorem ok0 {o : Option Nat} {h : MH} {v : MV} {rr : List MV} (b : ∀ w ∈ v :: rr, okv o h w) : okv o h v := b v List.mem_cons_self
theorem PT_st {E : EV} {o : Option Nat} {md : Bool} {n0 nL : Nat} {s : State} {lv : ML} {st st' : List MV} {h : MH} {ls : Array Slot} {H : Heap} {locs : List Loc} {cells slots : Nat} (hT : PT E o md n0 nL s lv st h ls H locs cells slots) (hk : ∀ v ∈ st', okv o h v) : PT E o md n0 nL s lv st' h ls H locs cells slots := ⟨hT.1, hT.2.1, hk, hT.2.2.2⟩
theorem inB_in {i : Int32} {n : Nat} (h : inB i n = true) : vp_in i n := by
  unfold inB at h
  unfold vp_in
  intro q
  rcases q with q | q <;> simp [q] at h
section Steps1
variable {p : Program} {l : Launch} {e : Env} {R : Room} {s : State} {m : MethodId} {args : Array Value} {below : List Frame} {meth : Method} {c : Code} {Q : State → Prop} {cc : ByteArray} {E : EV} {o : Option Nat} {md : Bool} {n0 nL : Nat} {RT : Type} {next : Nat → ML → List MV → MH → Option RT} {r : RT} {pc : Nat} {lv : ML} {st : List MV} {h : MH}
theorem xI2_s {f : Int32 → Int32 → Int32} (hrow : ∀ {x y : Int32} {H : Heap} {locs : List Loc} {cells slots : Nat} {ls : Array Slot} {rest : List Value}, W p l e R s m args below meth c H locs cells slots Q (F0 m (pc + 1) ls (.int (f x y) :: rest)) → W p l e R s m args below meth c H locs cells slots Q (F0 m pc ls (.int y :: .int x :: rest))) (hn : ∀ pc lv st h, next pc lv st h = some r → Gt p l e R s m args below meth c Q E o md n0 nL pc lv st h) (hf : xI2 next f pc lv st h = some r) : Gt p l e R s m args below meth c Q E o md n0 nL pc lv st h := by
  intro ls H locs cells slots hT
  unfold xI2 at hf
  split at hf
  · rename_i y x rr
    exact hrow (hn _ _ _ _ hf ls H locs cells slots (PT_st hT (okc trivial (ok1 (ok1 hT.2.2.1)))))
  · cases hf
theorem xI2d_s {f : Int32 → Int32 → Int32} (hrow : ∀ {x y : Int32} {H : Heap} {locs : List Loc} {cells slots : Nat} {ls : Array Slot} {rest : List Value}, ¬ y = 0 → W p l e R s m args below meth c H locs cells slots Q (F0 m (pc + 1) ls (.int (f x y) :: rest)) → W p l e R s m args below meth c H locs cells slots Q (F0 m pc ls (.int y :: .int x :: rest))) (hn : ∀ pc lv st h, next pc lv st h = some r → Gt p l e R s m args below meth c Q E o md n0 nL pc lv st h) (hf : xI2d next f pc lv st h = some r) : Gt p l e R s m args below meth c Q E o md n0 nL pc lv st h := by
  intro ls H locs cells slots hT
  unfold xI2d at hf
  split at hf
  · rename_i y x rr
    split at hf
    · cases hf
    · rename_i hy
      exact hrow hy (hn _ _ _ _ hf ls H locs cells slots (PT_st hT (okc trivial (ok1 (ok1 hT.2.2.1)))))
  · cases hf
theorem xI1_s {f : Int32 → Int32} (hrow : ∀ {x : Int32} {H : Heap} {locs : List Loc} {cells slots : Nat} {ls : Array Slot} {rest : List Value}, W p l e R s m args below meth c H locs cells slots Q (F0 m (pc + 1) ls (.int (f x) :: rest)) → W p l e R s m args below meth c H locs cells slots Q (F0 m pc ls (.int x :: rest))) (hn : ∀ pc lv st h, next pc lv st h = some r → Gt p l e R s m args below meth c Q E o md n0 nL pc lv st h) (hf : xI1 next f pc lv st h = some r) : Gt p l e R s m args below meth c Q E o md n0 nL pc lv st h := by
  intro ls H locs cells slots hT
  unfold xI1 at hf
  split at hf
  · exact hrow (hn _ _ _ _ hf ls H locs cells slots (PT_st hT (okc trivial (ok1 hT.2.2.1))))
  · cases hf
theorem xJ2_s {f : Int64 → Int64 → Int64} (hrow : ∀ {x y : Int64} {H : Heap} {locs : List Loc} {cells slots : Nat} {ls : Array Slot} {rest : List Value}, W p l e R s m args below meth c H locs cells slots Q (F0 m (pc + 1) ls (.long (f x y) :: rest)) → W p l e R s m args below meth c H locs cells slots Q (F0 m pc ls (.long y :: .long x :: rest))) (hn : ∀ pc lv st h, next pc lv st h = some r → Gt p l e R s m args below meth c Q E o md n0 nL pc lv st h) (hf : xJ2 next f pc lv st h = some r) : Gt p l e R s m args below meth c Q E o md n0 nL pc lv st h := by
  intro ls H locs cells slots hT
  unfold xJ2 at hf
  split at hf
  · exact hrow (hn _ _ _ _ hf ls H locs cells slots (PT_st hT (okc trivial (ok1 (ok1 hT.2.2.1)))))
  · cases hf
theorem xJ2d_s {f : Int64 → Int64 → Int64} (hrow : ∀ {x y : Int64} {H : Heap} {locs : List Loc} {cells slots : Nat} {ls : Array Slot} {rest : List Value}, ¬ y = 0 → W p l e R s m args below meth c H locs cells slots Q (F0 m (pc + 1) ls (.long (f x y) :: rest)) → W p l e R s m args below meth c H locs cells slots Q (F0 m pc ls (.long y :: .long x :: rest))) (hn : ∀ pc lv st h, next pc lv st h = some r → Gt p l e R s m args below meth c Q E o md n0 nL pc lv st h) (hf : xJ2d next f pc lv st h = some r) : Gt p l e R s m args below meth c Q E o md n0 nL pc lv st h := by
  intro ls H locs cells slots hT
  unfold xJ2d at hf
  split at hf
  · rename_i y x rr
    split at hf
    · cases hf
    · rename_i hy
      exact hrow hy (hn _ _ _ _ hf ls H locs cells slots (PT_st hT (okc trivial (ok1 (ok1 hT.2.2.1)))))
  · cases hf
theorem xJs_s {f : Int64 → Int32 → Int64} (hrow : ∀ {x : Int64} {y : Int32} {H : Heap} {locs : List Loc} {cells slots : Nat} {ls : Array Slot} {rest : List Value}, W p l e R s m args below meth c H locs cells slots Q (F0 m (pc + 1) ls (.long (f x y) :: rest)) → W p l e R s m args below meth c H locs cells slots Q (F0 m pc ls (.int y :: .long x :: rest))) (hn : ∀ pc lv st h, next pc lv st h = some r → Gt p l e R s m args below meth c Q E o md n0 nL pc lv st h) (hf : xJs next f pc lv st h = some r) : Gt p l e R s m args below meth c Q E o md n0 nL pc lv st h := by
  intro ls H locs cells slots hT
  unfold xJs at hf
  split at hf
  · exact hrow (hn _ _ _ _ hf ls H locs cells slots (PT_st hT (okc trivial (ok1 (ok1 hT.2.2.1)))))
  · cases hf
theorem xPushI_s {d : Nat} {v : Int32} (hrow : ∀ {H : Heap} {locs : List Loc} {cells slots : Nat} {ls : Array Slot} {rest : List Value}, W p l e R s m args below meth c H locs cells slots Q (F0 m (pc + d) ls (.int v :: rest)) → W p l e R s m args below meth c H locs cells slots Q (F0 m pc ls rest)) (hn : ∀ pc lv st h, next pc lv st h = some r → Gt p l e R s m args below meth c Q E o md n0 nL pc lv st h) (hf : next (pc + d) lv (.inl v :: st) h = some r) : Gt p l e R s m args below meth c Q E o md n0 nL pc lv st h := fun ls H locs cells slots hT => hrow (hn _ _ _ _ hf ls H locs cells slots (PT_st hT (okc trivial hT.2.2.1)))
theorem xPushJ_s {d : Nat} {v : Int64} (hrow : ∀ {H : Heap} {locs : List Loc} {cells slots : Nat} {ls : Array Slot} {rest : List Value}, W p l e R s m args below meth c H locs cells slots Q (F0 m (pc + d) ls (.long v :: rest)) → W p l e R s m args below meth c H locs cells slots Q (F0 m pc ls rest)) (hn : ∀ pc lv st h, next pc lv st h = some r → Gt p l e R s m args below meth c Q E o md n0 nL pc lv st h) (hf : next (pc + d) lv (.inr (.inl v) :: st) h = some r) : Gt p l e R s m args below meth c Q E o md n0 nL pc lv st h := fun ls H locs cells slots hT => hrow (hn _ _ _ _ hf ls H locs cells slots (PT_st hT (okc trivial hT.2.2.1)))
theorem PT_lk {k : Nat} {v : MV} {ls : Array Slot} {H : Heap} {locs : List Loc} {cells slots : Nat} (hT : PT E o md n0 nL s lv st h ls H locs cells slots) (hk : lk lv k = some v) : ls[k]? = some (.val (cv E v)) ∧ okv o h v := by
  have h1 := lk_mem lv k v hk
  exact ⟨hT.1.2.2 (k, cv E v) (List.mem_map.mpr ⟨(k, v), h1, rfl⟩), hT.2.1 _ h1⟩
theorem xLoad_s {t i d : Nat} (hi : Nat.beq t 0 = true → ∀ {x : Int32} {H : Heap} {locs : List Loc} {cells slots : Nat} {ls : Array Slot} {rest : List Value}, ls[i]? = some (.val (.int x)) → W p l e R s m args below meth c H locs cells slots Q (F0 m (pc + d) ls (.int x :: rest)) → W p l e R s m args below meth c H locs cells slots Q (F0 m pc ls rest)) (hj : Nat.beq t 1 = true → ∀ {x : Int64} {H : Heap} {locs : List Loc} {cells slots : Nat} {ls : Array Slot} {rest : List Value}, ls[i]? = some (.val (.long x)) → W p l e R s m args below meth c H locs cells slots Q (F0 m (pc + d) ls (.long x :: rest)) → W p l e R s m args below meth c H locs cells slots Q (F0 m pc ls rest)) (hr : Nat.beq t 2 = true → ∀ {x : Nat} {H : Heap} {locs : List Loc} {cells slots : Nat} {ls : Array Slot} {rest : List Value}, ls[i]? = some (.val (.ref x)) → W p l e R s m args below meth c H locs cells slots Q (F0 m (pc + d) ls (.ref x :: rest)) → W p l e R s m args below meth c H locs cells slots Q (F0 m pc ls rest)) (hn : ∀ pc lv st h, next pc lv st h = some r → Gt p l e R s m args below meth c Q E o md n0 nL pc lv st h) (hf : xLoad next t i (pc + d) lv st h = some r) : Gt p l e R s m args below meth c Q E o md n0 nL pc lv st h := by
  intro ls H locs cells slots hT
  unfold xLoad at hf
  split at hf
  · rename_i x hk
    obtain ⟨h1, h2⟩ := PT_lk hT hk
    split at hf
    · rename_i ht
      exact hi ht h1 (hn _ _ _ _ hf ls H locs cells slots (PT_st hT (okc h2 hT.2.2.1)))
    · cases hf
  · rename_i x hk
    obtain ⟨h1, h2⟩ := PT_lk hT hk
    split at hf
    · rename_i ht
      exact hj ht h1 (hn _ _ _ _ hf ls H locs cells slots (PT_st hT (okc h2 hT.2.2.1)))
    · cases hf
  · rename_i x hk
    obtain ⟨h1, h2⟩ := PT_lk hT hk
    split at hf
    · rename_i ht
      exact hr ht h1 (hn _ _ _ _ hf ls H locs cells slots (PT_st hT (okc h2 hT.2.2.1)))
    · cases hf
  · cases hf
theorem xStore_s {t i d : Nat} (hi : Nat.beq t 0 = true → i < nL → ∀ {x : Int32} {H : Heap} {locs : List Loc} {cells slots : Nat} {ls : Array Slot} {rest : List Value} {lv : List (Nat × Value)}, lv_has ls nL lv → (∀ ls' : Array Slot, lv_has ls' nL ((i, Value.int x) :: lv.filter (fun q => !(q.1 == i) && !(q.1 + 1 == i && q.2.category == 2))) → W p l e R s m args below meth c H locs cells slots Q (F0 m (pc + d) ls' rest)) → W p l e R s m args below meth c H locs cells slots Q (F0 m pc ls (.int x :: rest)))
    (hj : Nat.beq t 1 = true → i + 1 < nL → ∀ {x : Int64} {H : Heap} {locs : List Loc} {cells slots : Nat} {ls : Array Slot} {rest : List Value} {lv : List (Nat × Value)}, lv_has ls nL lv → (∀ ls' : Array Slot, lv_has ls' nL ((i, Value.long x) :: lv.filter (fun q => !(q.1 == i) && (!(q.1 == i + 1) && !(q.1 + 1 == i && q.2.category == 2)))) → W p l e R s m args below meth c H locs cells slots Q (F0 m (pc + d) ls' rest)) → W p l e R s m args below meth c H locs cells slots Q (F0 m pc ls (.long x :: rest)))
    (hr : Nat.beq t 2 = true → i < nL → ∀ {x : Nat} {H : Heap} {locs : List Loc} {cells slots : Nat} {ls : Array Slot} {rest : List Value} {lv : List (Nat × Value)}, lv_has ls nL lv → (∀ ls' : Array Slot, lv_has ls' nL ((i, Value.ref x) :: lv.filter (fun q => !(q.1 == i) && !(q.1 + 1 == i && q.2.category == 2))) → W p l e R s m args below meth c H locs cells slots Q (F0 m (pc + d) ls' rest)) → W p l e R s m args below meth c H locs cells slots Q (F0 m pc ls (.ref x :: rest)))
    (hn : ∀ pc lv st h, next pc lv st h = some r → Gt p l e R s m args below meth c Q E o md n0 nL pc lv st h) (hf : xStore nL next t i (pc + d) lv st h = some r) : Gt p l e R s m args below meth c Q E o md n0 nL pc lv st h := by
  intro ls H locs cells slots hT
  unfold xStore at hf
  split at hf
  · rename_i x rr
    split at hf
    · rename_i ht
      rw [Bool.and_eq_true] at ht
      refine hi ht.1 (Nat.le_of_ble_eq_true ht.2) hT.1 (fun ls' hl => ?_)
      rw [show Value.int x = cv E (.inl x) from rfl, cvL_st1] at hl
      exact hn _ _ _ _ hf ls' H locs cells slots ⟨hl, fun q hq => (st1_mem hq).elim (fun z => by rw [z]; exact ok0 hT.2.2.1) (hT.2.1 q), ok1 hT.2.2.1, hT.2.2.2⟩
    · cases hf
  · rename_i x rr
    split at hf
    · rename_i ht
      rw [Bool.and_eq_true] at ht
      refine hj ht.1 (by have := Nat.le_of_ble_eq_true ht.2; omega) hT.1 (fun ls' hl => ?_)
      rw [show Value.long x = cv E (.inr (.inl x)) from rfl, cvL_st2] at hl
      exact hn _ _ _ _ hf ls' H locs cells slots ⟨hl, fun q hq => (st2_mem hq).elim (fun z => by rw [z]; exact ok0 hT.2.2.1) (hT.2.1 q), ok1 hT.2.2.1, hT.2.2.2⟩
    · cases hf
  · rename_i x rr
    split at hf
    · rename_i ht
      rw [Bool.and_eq_true] at ht
      refine hr ht.1 (Nat.le_of_ble_eq_true ht.2) hT.1 (fun ls' hl => ?_)
      rw [show Value.ref (adr E x.1 x.2.1 x.2.2) = cv E (.inr (.inr x)) from rfl, cvL_st1] at hl
      exact hn _ _ _ _ hf ls' H locs cells slots ⟨hl, fun q hq => (st1_mem hq).elim (fun z => by rw [z]; exact ok0 hT.2.2.1) (hT.2.1 q), ok1 hT.2.2.1, hT.2.2.2⟩
    · cases hf
  · cases hf
theorem xIinc_s {i d : Nat} {v : Int32} (hi : i < nL → ∀ {x : Int32} {H : Heap} {locs : List Loc} {cells slots : Nat} {ls : Array Slot} {rest : List Value} {lv : List (Nat × Value)} {k : Nat}, lv[k]? = some (i, .int x) → lv_has ls nL lv → (∀ ls' : Array Slot, lv_has ls' nL ((i, Value.int (x + v)) :: lv.filter (fun q => !(q.1 == i) && !(q.1 + 1 == i && q.2.category == 2))) → W p l e R s m args below meth c H locs cells slots Q (F0 m (pc + d) ls' rest)) → W p l e R s m args below meth c H locs cells slots Q (F0 m pc ls rest))
    (hn : ∀ pc lv st h, next pc lv st h = some r → Gt p l e R s m args below meth c Q E o md n0 nL pc lv st h) (hf : xIinc nL next i (pc + d) v lv st h = some r) : Gt p l e R s m args below meth c Q E o md n0 nL pc lv st h := by
  intro ls H locs cells slots hT
  unfold xIinc at hf
  split at hf
  · rename_i x hk
    split at hf
    · rename_i ht
      have hm : (i, cv E (.inl x)) ∈ cvL E lv := List.mem_map.mpr ⟨(i, _), lk_mem lv i _ hk, rfl⟩
      obtain ⟨k, hk2⟩ := List.getElem?_of_mem hm
      refine hi (Nat.le_of_ble_eq_true ht) hk2 hT.1 (fun ls' hl => ?_)
      rw [show Value.int (x + v) = cv E (.inl (x + v)) from rfl, cvL_st1] at hl
      exact hn _ _ _ _ hf ls' H locs cells slots ⟨hl, fun q hq => (st1_mem hq).elim (fun z => by rw [z]; exact trivial) (hT.2.1 q), hT.2.2.1, hT.2.2.2⟩
    · cases hf
  · cases hf
theorem xIc_s {cd : Jvm.ClassFile.Cond} {off : Int} {tgt : Nat} (hx : p.tables.exec = Jvm.exec) (hb : c.code = cc) (hd : decode cc pc = .ok (.if_icmp cd off, 3)) (ht : (pc : Int) + off = (tgt : Int)) (hn : ∀ pc lv st h, next pc lv st h = some r → Gt p l e R s m args below meth c Q E o md n0 nL pc lv st h) (hf : xIc next cd tgt pc lv st h = some r) : Gt p l e R s m args below meth c Q E o md n0 nL pc lv st h := by
  intro ls H locs cells slots hT
  unfold xIc at hf
  split at hf
  · rename_i y x rr
    have hP := PT_st hT (ok1 (ok1 hT.2.2.1))
    cases cd <;> dsimp only at hf
    · exact lv_icmp_eq hx hb hd ht (fun z => hn _ _ _ _ (by rw [if_pos z] at hf; exact hf) _ _ _ _ _ hP) (fun z => hn _ _ _ _ (by rw [if_neg z] at hf; exact hf) _ _ _ _ _ hP)
    · exact lv_icmp_ne hx hb hd ht (fun z => hn _ _ _ _ (by rw [if_neg z] at hf; exact hf) _ _ _ _ _ hP) (fun z => hn _ _ _ _ (by rw [if_pos z] at hf; exact hf) _ _ _ _ _ hP)
    · exact lv_icmp_lt hx hb hd ht (fun z => hn _ _ _ _ (by rw [if_pos z] at hf; exact hf) _ _ _ _ _ hP) (fun z => hn _ _ _ _ (by rw [if_neg z] at hf; exact hf) _ _ _ _ _ hP)
    · exact lv_icmp_ge hx hb hd ht (fun z => hn _ _ _ _ (by rw [if_pos z] at hf; exact hf) _ _ _ _ _ hP) (fun z => hn _ _ _ _ (by rw [if_neg z] at hf; exact hf) _ _ _ _ _ hP)
    · exact lv_icmp_gt hx hb hd ht (fun z => hn _ _ _ _ (by rw [if_pos z] at hf; exact hf) _ _ _ _ _ hP) (fun z => hn _ _ _ _ (by rw [if_neg z] at hf; exact hf) _ _ _ _ _ hP)
    · exact lv_icmp_le hx hb hd ht (fun z => hn _ _ _ _ (by rw [if_pos z] at hf; exact hf) _ _ _ _ _ hP) (fun z => hn _ _ _ _ (by rw [if_neg z] at hf; exact hf) _ _ _ _ _ hP)
  · cases hf
theorem xIf_s {cd : Jvm.ClassFile.Cond} {off : Int} {tgt : Nat} (hx : p.tables.exec = Jvm.exec) (hb : c.code = cc) (hd : decode cc pc = .ok (.ifCond cd off, 3)) (ht : (pc : Int) + off = (tgt : Int)) (hn : ∀ pc lv st h, next pc lv st h = some r → Gt p l e R s m args below meth c Q E o md n0 nL pc lv st h) (hf : xIf next cd tgt pc lv st h = some r) : Gt p l e R s m args below meth c Q E o md n0 nL pc lv st h := by
  intro ls H locs cells slots hT
  unfold xIf at hf
  split at hf
  · rename_i x rr
    have hP := PT_st hT (ok1 hT.2.2.1)
    cases cd <;> dsimp only at hf
    · exact lv_if_eq hx hb hd ht (fun z => hn _ _ _ _ (by rw [if_pos z] at hf; exact hf) _ _ _ _ _ hP) (fun z => hn _ _ _ _ (by rw [if_neg z] at hf; exact hf) _ _ _ _ _ hP)
    · exact lv_if_ne hx hb hd ht (fun z => hn _ _ _ _ (by rw [if_neg z] at hf; exact hf) _ _ _ _ _ hP) (fun z => hn _ _ _ _ (by rw [if_pos z] at hf; exact hf) _ _ _ _ _ hP)
    · exact lv_if_lt hx hb hd ht (fun z => hn _ _ _ _ (by rw [if_pos z] at hf; exact hf) _ _ _ _ _ hP) (fun z => hn _ _ _ _ (by rw [if_neg z] at hf; exact hf) _ _ _ _ _ hP)
    · exact lv_if_ge hx hb hd ht (fun z => hn _ _ _ _ (by rw [if_pos z] at hf; exact hf) _ _ _ _ _ hP) (fun z => hn _ _ _ _ (by rw [if_neg z] at hf; exact hf) _ _ _ _ _ hP)
    · exact lv_if_gt hx hb hd ht (fun z => hn _ _ _ _ (by rw [if_pos z] at hf; exact hf) _ _ _ _ _ hP) (fun z => hn _ _ _ _ (by rw [if_neg z] at hf; exact hf) _ _ _ _ _ hP)
    · exact lv_if_le hx hb hd ht (fun z => hn _ _ _ _ (by rw [if_pos z] at hf; exact hf) _ _ _ _ _ hP) (fun z => hn _ _ _ _ (by rw [if_neg z] at hf; exact hf) _ _ _ _ _ hP)
  · cases hf
theorem xDup_s (hx : p.tables.exec = Jvm.exec) (hb : c.code = cc) (hd : decode cc pc = .ok (.dup, 1)) (hn : ∀ pc lv st h, next pc lv st h = some r → Gt p l e R s m args below meth c Q E o md n0 nL pc lv st h) (hf : xDup next pc lv st h = some r) : Gt p l e R s m args below meth c Q E o md n0 nL pc lv st h := by
  intro ls H locs cells slots hT
  unfold xDup at hf
  split at hf
  · rename_i u rr
    split at hf
    · rename_i hu
      exact lv_dup hx hb hd (by rw [cv_cat, hu]; rfl) (hn _ _ _ _ hf _ _ _ _ _ (PT_st hT (okc (ok0 hT.2.2.1) hT.2.2.1)))
    · cases hf
  · cases hf
theorem xPop_s (hx : p.tables.exec = Jvm.exec) (hb : c.code = cc) (hd : decode cc pc = .ok (.pop, 1)) (hn : ∀ pc lv st h, next pc lv st h = some r → Gt p l e R s m args below meth c Q E o md n0 nL pc lv st h) (hf : xPop next pc lv st h = some r) : Gt p l e R s m args below meth c Q E o md n0 nL pc lv st h := by
  intro ls H locs cells slots hT
  unfold xPop at hf
  split at hf
  · rename_i u rr
    split at hf
    · rename_i hu
      exact lv_pop hx hb hd (by rw [cv_cat, hu]; rfl) (hn _ _ _ _ hf _ _ _ _ _ (PT_st hT (ok1 hT.2.2.1)))
    · cases hf
  · cases hf
theorem xDup2_s (hx : p.tables.exec = Jvm.exec) (hb : c.code = cc) (hd : decode cc pc = .ok (.dup2, 1)) (hn : ∀ pc lv st h, next pc lv st h = some r → Gt p l e R s m args below meth c Q E o md n0 nL pc lv st h) (hf : xDup2 next pc lv st h = some r) : Gt p l e R s m args below meth c Q E o md n0 nL pc lv st h := by
  intro ls H locs cells slots hT
  unfold xDup2 at hf
  split at hf
  · rename_i x rr
    exact lv_dup2_2 hx hb hd rfl (hn _ _ _ _ hf _ _ _ _ _ (PT_st hT (okc (ok0 hT.2.2.1) hT.2.2.1)))
  · rename_i u v rr _
    split at hf
    · rename_i hu
      rw [Bool.or_eq_false_iff] at hu
      exact lv_dup2_11 hx hb hd (by rw [cv_cat, hu.1]; rfl) (by rw [cv_cat, hu.2]; rfl) (hn _ _ _ _ hf _ _ _ _ _ (PT_st hT (okc (ok0 hT.2.2.1) (okc (ok0 (ok1 hT.2.2.1)) hT.2.2.1))))
    · cases hf
  · cases hf
theorem xLcmp_s (hx : p.tables.exec = Jvm.exec) (hb : c.code = cc) (hd : decode cc pc = .ok (.lcmp, 1)) (hn : ∀ pc lv st h, next pc lv st h = some r → Gt p l e R s m args below meth c Q E o md n0 nL pc lv st h) (hf : xLcmp next pc lv st h = some r) : Gt p l e R s m args below meth c Q E o md n0 nL pc lv st h := by
  intro ls H locs cells slots hT
  unfold xLcmp at hf
  split at hf
  · exact W.lcmp hx hb hd (hn _ _ _ _ hf _ _ _ _ _ (PT_st hT (okc trivial (ok1 (ok1 hT.2.2.1)))))
  · cases hf
theorem xI2l_s (hx : p.tables.exec = Jvm.exec) (hb : c.code = cc) (hd : decode cc pc = .ok (.i2l, 1)) (hn : ∀ pc lv st h, next pc lv st h = some r → Gt p l e R s m args below meth c Q E o md n0 nL pc lv st h) (hf : xI2l next pc lv st h = some r) : Gt p l e R s m args below meth c Q E o md n0 nL pc lv st h := by
  intro ls H locs cells slots hT
  unfold xI2l at hf
  split at hf
  · exact lv_i2l hx hb hd rfl (hn _ _ _ _ hf _ _ _ _ _ (PT_st hT (okc trivial (ok1 hT.2.2.1))))
  · cases hf
theorem xL2i_s (hx : p.tables.exec = Jvm.exec) (hb : c.code = cc) (hd : decode cc pc = .ok (.l2i, 1)) (hn : ∀ pc lv st h, next pc lv st h = some r → Gt p l e R s m args below meth c Q E o md n0 nL pc lv st h) (hf : xL2i next pc lv st h = some r) : Gt p l e R s m args below meth c Q E o md n0 nL pc lv st h := by
  intro ls H locs cells slots hT
  unfold xL2i at hf
  split at hf
  · exact lv_l2i hx hb hd rfl (hn _ _ _ _ hf _ _ _ _ _ (PT_st hT (okc trivial (ok1 hT.2.2.1))))
  · cases hf
theorem xLneg_s (hx : p.tables.exec = Jvm.exec) (hb : c.code = cc) (hd : decode cc pc = .ok (.lneg, 1)) (hn : ∀ pc lv st h, next pc lv st h = some r → Gt p l e R s m args below meth c Q E o md n0 nL pc lv st h) (hf : xLneg next pc lv st h = some r) : Gt p l e R s m args below meth c Q E o md n0 nL pc lv st h := by
  intro ls H locs cells slots hT
  unfold xLneg at hf
  split at hf
  · exact lv_lneg hx hb hd (hn _ _ _ _ hf _ _ _ _ _ (PT_st hT (okc trivial (ok1 hT.2.2.1))))
  · cases hf
end Steps1
