
/-! THE START: what stands beside the cells when the law begins -/
def smT (i : Nat) : Term := .string (SREF.getD i ("", 0, "", 0)).1 (SREF.getD i ("", 0, "", 0)).2.1
theorem arr_of {args : Array Value} {s : State} {ty : FieldType} (h : (Cond.arrayClass ty).before args s = true) : ∃ cA, ArrOfT s cA ty ∧ s.vm.findClass ("[" ++ ty.toString) = some cA := by
  obtain ⟨cA, kA, comp, h1, h2, h3⟩ := Cond.arrayClass_spec h
  exact ⟨cA, fun n z => ⟨fun k h => (by cases h), kA, h2, comp, h3⟩, h1⟩
theorem IN_all : ∀ q ∈ vwCl, Cond.instantiable q.1 q.2.2 ∈ TB := by
  intro q hq
  simp only [vwCl, List.mem_cons, List.not_mem_nil, or_false] at hq
  rcases hq with rfl | rfl | rfl | rfl | rfl | rfl | rfl | rfl | rfl | rfl | rfl | rfl | rfl <;> decide +kernel
theorem SR_all : ∀ q ∈ SREF, Cond.stringRef q.1 q.2.1 q.2.2.1 ∈ lw_tbl ∧ q.2.2.2 < 10 ∧ smT q.2.2.2 = .string q.1 q.2.1 := by decide +kernel
theorem w_ao : lw_tbl[183]? = some (.arrayOver (.object "SlipSheets$Tray")) := by decide +kernel
theorem w_z1 : lw_tbl[780]? = some (.laysStatic "java/lang/String" "COMPACT_STRINGS" "Z") := by decide +kernel
theorem w_z2 : lw_tbl[167]? = some (.initialized "java/lang/String") := by decide +kernel
theorem w_q1 : lw_tbl[796]? = some (.laysStatic "jdk/internal/util/Preconditions" "SIOOBE_FORMATTER" "Ljava/util/function/BiFunction;") := by decide +kernel
theorem w_q2 : lw_tbl[169]? = some (.initialized "jdk/internal/util/Preconditions") := by decide +kernel
theorem jsl : ∀ i : Nat, i < 10 → (jsB.map List.length).getD i 0 < 2 ^ 31 := by decide +kernel
theorem str0 {args : Array Value} {s : State} (hgv : (Jvm.Cond.and given_1 narrow_1).before args s = true) {A : Nat → Prop} (hA : ∀ a : Nat, a < s.heap.size → ¬ A a) : ∃ adK adV : Nat → Nat, vk_S 10 (jsB.map List.length) jsB adK adV A s s.heap ∧ ∀ i : Nat, i < 10 → (smT i).eval args s none [] s = some (.ref (adK i)) := by
  have hf := flat_of_before _ hgv
  have c1 : ∀ i : Nat, i < 10 → (Cond.exactly (smT i) "java/lang/String").before args s = true := fun i hi => hf _ (by revert i; decide +kernel)
  have c2 : ∀ i : Nat, i < 10 → (Cond.eq (.field (smT i) "java/lang/String" "coder" "B") (.int 0)).before args s = true := fun i hi => hf _ (by revert i; decide +kernel)
  have c3 : ∀ i : Nat, i < 10 → (Cond.arrayOf (.field (smT i) "java/lang/String" "value" "[B") .byte).before args s = true := fun i hi => hf _ (by revert i; decide +kernel)
  have c4 : ∀ i : Nat, i < 10 → (Cond.eq (.length (.field (smT i) "java/lang/String" "value" "[B")) (.int (Int32.ofNat ((jsB.map List.length).getD i 0)))).before args s = true := fun i hi => hf _ (by revert i; decide +kernel)
  have c5 : ∀ i : Nat, i < 10 → ∀ j : Nat, j < (jsB.map List.length).getD i 0 → (Cond.eq (.elem (.field (smT i) "java/lang/String" "value" "[B") (.int (Int32.ofNat j))) (.int ((jsB.getD i []).getD j 0))).before args s = true := fun i hi j hj => hf _ (by revert j; revert i; decide +kernel)
  have c6 : ∀ i : Nat, i < 10 → ∀ j : Nat, j < 10 → i < j → (Cond.not (Cond.eq (smT i) (smT j))).before args s = true := fun i hi j hj hij => hf _ (by revert j; revert i; decide +kernel)
  exact vk_Sof jsl c1 c2 c3 c4 c5 (fun i j hi hj hne => (Nat.lt_or_gt_of_ne hne).elim (fun z => Or.inl (c6 i hi j hj z)) (fun z => Or.inr (c6 j hj i hi z))) hA
theorem env0 {p : Program} {s : State} {m : MethodId} {meth : Method} {c : Code} {b L : Nat} {xs : Nat → Int32} (C0 : lw_At p s m meth c b L xs) : ∃ E : EV, s.heap.size = E.1 + 0 + 1 ∧ E.2.1 = b ∧ EnvOK E s := by
  obtain ⟨-, -, -, -, -, hts, -, hbl, -, hgv⟩ := C0
  have hf := flat_of_before _ hgv
  have hA : ∀ a : Nat, a < s.heap.size → ¬ (s.heap.size - 1 < a) := fun a ha => by omega
  have hTB : ∀ w ∈ TB, w.before #[Value.ref b] s = true := fun w hw => hts w (List.mem_filter.mp hw).1
  obtain ⟨adK, adV, hS, hev⟩ := str0 (A := fun q => s.heap.size - 1 < q) hgv hA
  obtain ⟨k1, a1, b1⟩ := arr_of (hts _ (List.mem_of_getElem? w_aI))
  obtain ⟨k2, a2, b2⟩ := arr_of (hts _ (List.mem_of_getElem? w_aJ))
  obtain ⟨k3, a3, b3⟩ := arr_of (hts _ (List.mem_of_getElem? w_aB))
  obtain ⟨k4, a4, b4⟩ := arr_of (hts _ (List.mem_of_getElem? w_aZ))
  have hao := hts _ (List.mem_of_getElem? w_ao)
  obtain ⟨comp, k5, kA, o1, -, o3, o4, o5⟩ := Cond.arrayOver_spec hao
  have a5 : ArrOfT s k5 (.object "SlipSheets$Tray") := fun N z => ⟨(fun k h => by cases h), kA, o3, comp, o4⟩
  have hk : ∀ ci : Nat, ∃ q : ClassId × (Nat → Nat), ∀ r, vwCl[ci]? = some r → u_Kn s r.1 r.2.1 r.2.2 q.1 q.2 := by
    intro ci
    cases hv : vwCl[ci]? with
    | none => exact ⟨(k1, fun _ => 0), fun r h => by cases h⟩
    | some r =>
      obtain ⟨C, T, N⟩ := r
      obtain ⟨cC, iS, h⟩ := u_known hTB (CLS1 ci C T N hv) (hTB _ (IN_all _ (List.mem_of_getElem? hv)))
      exact ⟨(cC, iS), fun r h' => by cases h'; exact h⟩
  obtain ⟨dk, hdk⟩ := Classical.axiomOfChoice hk
  refine ⟨(s.heap.size - 1, b, adK, adV, (fun k => match k with
    | 1 => k1
    | 2 => k2
    | 3 => k3
    | 4 => k4
    | _ => k5), fun ci => (dk ci).1, fun ci => (dk ci).2), ?_, rfl, ⟨fun ci r hr => hdk ci r hr, ?_⟩, hS, ?_, ?_, ?_, va_AO.of hao, ?_⟩
  · show s.heap.size = s.heap.size - 1 + 0 + 1
    omega
  · intro k q hq
    have hl : k < 5 := (List.getElem?_eq_some_iff.mp hq).1
    rcases (show k = 0 ∨ k = 1 ∨ k = 2 ∨ k = 3 ∨ k = 4 by omega) with rfl | rfl | rfl | rfl | rfl
    · cases hq; exact ⟨a1, b1⟩
    · cases hq; exact ⟨a2, b2⟩
    · cases hq; exact ⟨a3, b3⟩
    · cases hq; exact ⟨a4, b4⟩
    · cases hq; exact ⟨a5, kA, comp, o3, o4, o1, o5⟩
  · intro q hq
    obtain ⟨g1, g2, g3⟩ := SR_all q hq
    have h2 := hev _ g2
    rw [g3] at h2
    exact vk_R.of (hts _ g1) h2
  · exact va_Zof (hts _ (List.mem_of_getElem? w_z1)) (hts _ (List.mem_of_getElem? w_z2)) (va_eqt (hf _ (by decide +kernel))) hA
  · exact fun w hw hn => va_Nw.of (nest_of hn) (hts w hw)
  · exact va_Zqof (hts _ (List.mem_of_getElem? w_q1)) (hts _ (List.mem_of_getElem? w_q2)) (hf _ (by decide +kernel)) hA
