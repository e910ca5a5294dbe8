/-! RANK by elimination without fractions, any choice of rows -/
def Spn (A : List RV) (v : RV) : Prop := ∃ xs : List Int, xs.length = A.length ∧ v = spn A xs
theorem spn_zero : ∀ (A : List RV), spn A (A.map (fun _ => 0)) = fun _ => 0
  | [] => rfl
  | r :: A => by
    have := spn_zero A
    funext j
    have h := congrFun this j
    simp only [spn, List.map_cons, List.zip_cons_cons, List.foldr_cons] at h ⊢
    rw [h]; simp
theorem Spn_zero (A : List RV) : Spn A (fun _ => 0) := ⟨A.map (fun _ => 0), by simp, (spn_zero A).symm⟩
theorem spn_cmb (x y : Int) : ∀ (A : List RV) (xs ys : List Int), xs.length = A.length → ys.length = A.length → cmb x (spn A xs) y (spn A ys) = spn A ((xs.zip ys).map (fun q => x * q.1 + y * q.2))
  | [], xs, ys, _, _ => by funext j; simp [cmb, spn]
  | r :: A, [], ys, h, _ => by simp at h
  | r :: A, _ :: _, [], _, h => by simp at h
  | r :: A, a :: xs, b :: ys, h1, h2 => by
    have := spn_cmb x y A xs ys (by simpa using h1) (by simpa using h2)
    funext j
    have h := congrFun this j
    simp only [cmb, spn, List.map_cons, List.zip_cons_cons, List.foldr_cons] at h ⊢
    rw [← h]
    grind
theorem Spn_cmb {A : List RV} {u v : RV} (x y : Int) (hu : Spn A u) (hv : Spn A v) : Spn A (cmb x u y v) := by
  obtain ⟨xs, hx, rfl⟩ := hu
  obtain ⟨ys, hy, rfl⟩ := hv
  exact ⟨(xs.zip ys).map (fun q => x * q.1 + y * q.2), by simp [hx, hy], spn_cmb x y A xs ys hx hy⟩
theorem Spn_mem : ∀ {A : List RV} {w : RV}, w ∈ A → Spn A w
  | [], w, h => by cases h
  | r :: A, w, h => by
    rcases List.mem_cons.mp h with rfl | h
    · refine ⟨1 :: A.map (fun _ => 0), by simp, ?_⟩
      funext j
      have := congrFun (spn_zero A) j
      simp only [spn, List.zip_cons_cons, List.foldr_cons] at this ⊢
      rw [this]; simp
    · obtain ⟨xs, hx, rfl⟩ := Spn_mem h
      refine ⟨0 :: xs, by simp [hx], ?_⟩
      funext j
      simp [spn]
theorem Spn_spn {B : List RV} : ∀ (A : List RV) (xs : List Int), (∀ w ∈ A, Spn B w) → Spn B (spn A xs)
  | [], xs, _ => by
    have : spn [] xs = fun _ => 0 := by funext j; simp [spn]
    rw [this]; exact Spn_zero B
  | r :: A, [], _ => by
    have : spn (r :: A) [] = fun _ => 0 := by funext j; simp [spn]
    rw [this]; exact Spn_zero B
  | r :: A, x :: xs, h => by
    have : spn (r :: A) (x :: xs) = cmb x r 1 (spn A xs) := by funext j; simp [spn, cmb]
    rw [this]
    exact Spn_cmb x 1 (h r List.mem_cons_self) (Spn_spn A xs (fun w hw => h w (List.mem_cons_of_mem _ hw)))
theorem Spn_mono {A B : List RV} (h : ∀ w ∈ A, Spn B w) {v : RV} (hv : Spn A v) : Spn B v := by
  obtain ⟨xs, hx, rfl⟩ := hv
  exact Spn_spn A xs h
def Pc (A : List RV) (c : Nat) : Prop := ∃ v, Spn A v ∧ (∀ j, j < c → v j = 0) ∧ v c ≠ 0
noncomputable def pcn (A : List RV) : Nat → Nat
  | 0 => 0
  | c + 1 => pcn A c + @ite _ (Pc A c) (Classical.propDecidable _) 1 0
theorem pcn_yes {A : List RV} {c : Nat} (h : Pc A c) : pcn A (c + 1) = pcn A c + 1 := by
  unfold pcn
  rw [@if_pos _ (Classical.propDecidable _) h]
  cases c <;> rfl
theorem pcn_no {A : List RV} {c : Nat} (h : ¬ Pc A c) : pcn A (c + 1) = pcn A c := by
  unfold pcn
  rw [@if_neg _ (Classical.propDecidable _) h]
  cases c <;> rfl
theorem pcn_congr {A B : List RV} (h1 : ∀ w ∈ A, Spn B w) (h2 : ∀ w ∈ B, Spn A w) : ∀ c, pcn A c = pcn B c
  | 0 => rfl
  | c + 1 => by
    have e : Pc A c ↔ Pc B c := ⟨fun ⟨v, a, b⟩ => ⟨v, Spn_mono h1 a, b⟩, fun ⟨v, a, b⟩ => ⟨v, Spn_mono h2 a, b⟩⟩
    have ih := pcn_congr h1 h2 c
    by_cases p : Pc A c
    · rw [pcn_yes p, pcn_yes (e.mp p), ih]
    · rw [pcn_no p, pcn_no (fun q => p (e.mpr q)), ih]
theorem TT_mem {C : List Nat} {b : List RV} {w : RV} (hl : b.length = C.length) (hw : w ∈ b) (j : Nat) : TT C b w j = 0 := by
  obtain ⟨M, B, rfl⟩ := List.append_of_mem hw
  exact det_rep (j :: C) w B M [] (by simp at hl ⊢; omega)
theorem TT_one {C : List Nat} {b : List RV} (hl : b.length = C.length) {w : RV} (hw : ∀ c ∈ C, w c = 0) (k : Nat) : TT C b w k = w k * det C b := by
  show lapl (det C) k [] (w :: b) = _
  simp only [lapl, List.nil_append]
  have := lapl_zer1 (det_zer w C hw) k b [] [] (by simp; omega)
  simp only [List.nil_append] at this
  rw [this]; omega
theorem TT_spn {C : List Nat} {b : List RV} (hl : b.length = C.length) (c : Nat) : ∀ (A : List RV) (xs : List Int), (∀ w ∈ A, TT C b w c = 0) → TT C b (spn A xs) c = 0
  | [], xs, _ => by
    have : spn [] xs = cmb 0 (fun _ => 0) 0 (fun _ => 0) := by funext j; simp [spn, cmb]
    rw [this]
    have := det_lin (c :: C) [] b (fun _ => 0) (fun _ => 0) 0 0 (by simp; omega)
    simp only [List.nil_append] at this
    show det (c :: C) (_ :: b) = 0
    rw [this]; simp
  | r :: A, [], _ => by
    have : spn (r :: A) [] = cmb 0 (fun _ => 0) 0 (fun _ => 0) := by funext j; simp [spn, cmb]
    rw [this]
    have := det_lin (c :: C) [] b (fun _ => 0) (fun _ => 0) 0 0 (by simp; omega)
    simp only [List.nil_append] at this
    show det (c :: C) (_ :: b) = 0
    rw [this]; simp
  | r :: A, x :: xs, h => by
    have : spn (r :: A) (x :: xs) = cmb x r 1 (spn A xs) := by funext j; simp [spn, cmb]
    rw [this]
    have := det_lin (c :: C) [] b r (spn A xs) x 1 (by simp; omega)
    simp only [List.nil_append] at this
    show det (c :: C) (_ :: b) = 0
    rw [this]
    have e1 : det (c :: C) (r :: b) = 0 := h r List.mem_cons_self
    have e2 : det (c :: C) (spn A xs :: b) = 0 := TT_spn hl c A xs (fun w hw => h w (List.mem_cons_of_mem _ hw))
    rw [e1, e2]; simp
/-- where an elimination stands: R rows in the order sg, r of them done, columns below c looked at -/
def BI (A : List RV) (R : Nat) (sg : Nat → RV) (r c : Nat) (C : List Nat) (b : List RV) : Prop :=
  b.length = C.length ∧ C.length = r ∧ det C b ≠ 0 ∧ (∀ w q, q ∈ C → TT C b w q = 0) ∧ (∀ j, j < c → ∀ w ∈ A, TT C b w j = 0) ∧ (∀ w ∈ b, w ∈ A) ∧
  (∀ m, r ≤ m → m < R → sg m ∈ A) ∧ (∀ w ∈ A, w ∈ b ∨ ∃ m, r ≤ m ∧ m < R ∧ sg m = w) ∧ (∀ q ∈ C, q < c) ∧ r = pcn A c
theorem BI_start {A : List RV} {R : Nat} {sg : Nat → RV} (h1 : ∀ m, m < R → sg m ∈ A) (h2 : ∀ w ∈ A, ∃ m, m < R ∧ sg m = w) : BI A R sg 0 0 [] [] := by
  refine ⟨rfl, rfl, by simp [det], fun w q h => (by cases h), fun j h => (by omega), fun w h => (by cases h), fun m _ h => h1 m h, fun w h => ?_, fun q h => (by cases h), rfl⟩
  obtain ⟨m, a, b⟩ := h2 w h
  exact .inr ⟨m, by omega, a, b⟩
theorem BI_no {A : List RV} {R : Nat} {sg : Nat → RV} {r c : Nat} {C : List Nat} {b : List RV} (h : BI A R sg r c C b) (hn : ∀ m, r ≤ m → m < R → TT C b (sg m) c = 0) : BI A R sg r (c + 1) C b := by
  obtain ⟨a1, a2, a3, a4, a5, a6, a7, a8, a9, a10⟩ := h
  have hall : ∀ w ∈ A, TT C b w c = 0 := by
    intro w hw
    rcases a8 w hw with q | ⟨m, m1, m2, rfl⟩
    · exact TT_mem a1 q c
    · exact hn m m1 m2
  refine ⟨a1, a2, a3, a4, fun j hj w hw => ?_, a6, a7, a8, fun q hq => by have := a9 q hq; omega, ?_⟩
  · rcases Nat.lt_or_ge j c with q | q
    · exact a5 j q w hw
    · rw [show j = c by omega]; exact hall w hw
  · rw [pcn_no]
    · exact a10
    · rintro ⟨v, ⟨xs, hx, rfl⟩, v1, v2⟩
      have e1 := TT_spn a1 c A xs hall
      rw [TT_one a1 (fun q hq => v1 q (a9 q hq)) c] at e1
      rcases Int.mul_eq_zero.mp e1 with q | q
      · exact v2 q
      · exact a3 q
def swp (sg : Nat → RV) (r p : Nat) : Nat → RV := fun m => if m = r then sg p else if m = p then sg r else sg m
theorem BI_yes {A : List RV} {R : Nat} {sg : Nat → RV} {r c : Nat} {C : List Nat} {b : List RV} (h : BI A R sg r c C b) {p : Nat} (p1 : r ≤ p) (p2 : p < R) (hp : TT C b (sg p) c ≠ 0) : BI A R (swp sg r p) (r + 1) (c + 1) (c :: C) (sg p :: b) := by
  obtain ⟨a1, a2, a3, a4, a5, a6, a7, a8, a9, a10⟩ := h
  have hv := TT_van C b (sg p) c a1 a3 a4
  refine ⟨by simp [a1], by simp [a2], hp, hv, fun j hj w hw => ?_, fun w hw => ?_, fun m m1 m2 => ?_, fun w hw => ?_, fun q hq => ?_, ?_⟩
  · rcases Nat.lt_or_ge j c with q | q
    · have s := TT_step C b (sg p) w c j a1 a3 a4
      rw [a5 j q w hw, a5 j q (sg p) (a7 p p1 p2)] at s
      simp only [Int.mul_zero, Int.sub_zero] at s
      rcases Int.mul_eq_zero.mp s with z | z
      · exact absurd z a3
      · exact z
    · rw [show j = c by omega]; exact hv w c List.mem_cons_self
  · rcases List.mem_cons.mp hw with rfl | hw
    · exact a7 p p1 p2
    · exact a6 w hw
  · unfold swp
    rw [if_neg (by omega)]
    split
    · exact a7 r (Nat.le_refl _) (by omega)
    · exact a7 m (by omega) m2
  · rcases a8 w hw with q | ⟨m, m1, m2, rfl⟩
    · exact .inl (List.mem_cons_of_mem _ q)
    · by_cases e : m = p
      · subst e; exact .inl List.mem_cons_self
      · right
        by_cases e2 : m = r
        · refine ⟨p, by omega, p2, ?_⟩
          unfold swp
          rw [if_neg (by omega), if_pos rfl, e2]
        · refine ⟨m, by omega, m2, ?_⟩
          unfold swp
          rw [if_neg e2, if_neg e]
  · rcases List.mem_cons.mp hq with rfl | hq
    · omega
    · have := a9 q hq; omega
  · rw [pcn_yes, a10]
    refine ⟨TT C b (sg p), ?_, fun j hj => a5 j hj _ (a7 p p1 p2), hp⟩
    obtain ⟨xs, hx, e⟩ := TT_eq C b (sg p)
    rw [e]
    exact Spn_cmb _ _ (Spn_mem (a7 p p1 p2)) (Spn_spn b xs (fun w hw => Spn_mem (a6 w hw)))
/-- how great a determinant can be -/
def fc9 : Nat → Nat
  | 0 => 1
  | n + 1 => (n + 1) * (9 * fc9 n)
theorem natAbs_sub_le (a b : Int) : (a - b).natAbs ≤ a.natAbs + b.natAbs := by omega
theorem lapl_bd2 {g : List RV → Int} {Q : RV → Prop} {G n c : Nat} (hg : ∀ rows : List RV, rows.length = n → (∀ w ∈ rows, Q w) → (g rows).natAbs ≤ G) (hc : ∀ w, Q w → (w c).natAbs ≤ 9) : ∀ (rest pre : List RV), pre.length + rest.length = n + 1 → (∀ w ∈ pre, Q w) → (∀ w ∈ rest, Q w) → (lapl g c pre rest).natAbs ≤ rest.length * (9 * G) := by
  intro rest
  induction rest with
  | nil => intro pre _ _ _; simp [lapl]
  | cons r rest ih =>
    intro pre hl h1 h2
    have a := hg (pre ++ rest) (by simp at hl ⊢; omega) (fun w hw => by
      rcases List.mem_append.mp hw with q | q
      · exact h1 w q
      · exact h2 w (List.mem_cons_of_mem _ q))
    have b := ih (pre ++ [r]) (by simp at hl ⊢; omega) (fun w hw => by
      rcases List.mem_append.mp hw with q | q
      · exact h1 w q
      · rw [List.mem_singleton.mp q]; exact h2 r List.mem_cons_self) (fun w hw => h2 w (List.mem_cons_of_mem _ hw))
    have c9 := hc r (h2 r List.mem_cons_self)
    simp only [lapl, List.length_cons]
    have t := natAbs_sub_le (r c * g (pre ++ rest)) (lapl g c (pre ++ [r]) rest)
    rw [Int.natAbs_mul] at t
    have m : (r c).natAbs * (g (pre ++ rest)).natAbs ≤ 9 * G := Nat.mul_le_mul c9 a
    rw [Nat.add_mul, Nat.one_mul]
    omega
theorem det_bd : ∀ (cs : List Nat) (rows : List RV), rows.length = cs.length → (∀ w ∈ rows, ∀ c ∈ cs, (w c).natAbs ≤ 9) → (det cs rows).natAbs ≤ fc9 cs.length
  | [], rows, _, _ => by simp [det, fc9]
  | c :: cs, rows, hl, h => by
    have := lapl_bd2 (g := det cs) (Q := fun w => ∀ q ∈ c :: cs, (w q).natAbs ≤ 9) (G := fc9 cs.length) (n := cs.length) (c := c) (fun rows hl hq => det_bd cs rows hl (fun w hw q hq' => hq w hw q (List.mem_cons_of_mem _ hq'))) (fun w hw => hw c List.mem_cons_self) rows [] (by simpa using hl) (fun w hw => by cases hw) h
    rw [hl] at this
    exact this
theorem pcn_le (A : List RV) : ∀ c, pcn A c ≤ c
  | 0 => Nat.le_refl _
  | c + 1 => by
    have := pcn_le A c
    by_cases p : Pc A c
    · rw [pcn_yes p]; omega
    · rw [pcn_no p]; omega
theorem fc9_le {n : Nat} (h : n ≤ 6) : fc9 n ≤ 382637520 := by
  rcases n with _ | _ | _ | _ | _ | _ | _ | n
  all_goals first | omega | (simp [fc9])
theorem BI_bd {A : List RV} {R : Nat} {sg : Nat → RV} {r c : Nat} {C : List Nat} {b : List RV} (h : BI A R sg r c C b) (h9 : ∀ w ∈ A, ∀ j, j < 6 → (w j).natAbs ≤ 9) (hc : c < 6) {w : RV} (hw : w ∈ A) {j : Nat} (hj : j < 6) : (TT C b w j).natAbs ≤ 382637520 := by
  obtain ⟨a1, a2, a3, a4, a5, a6, a7, a8, a9, a10⟩ := h
  have hr := pcn_le A c
  refine Nat.le_trans (det_bd (j :: C) (w :: b) (by simp [a1]) (fun v hv q hq => ?_)) (fc9_le (by simp; omega))
  have hv : v ∈ A := by
    rcases List.mem_cons.mp hv with rfl | hv
    · exact hw
    · exact a6 v hv
  refine h9 v hv q ?_
  rcases List.mem_cons.mp hq with rfl | hq
  · exact hj
  · have := a9 q hq; omega
theorem BI_dbd {A : List RV} {R : Nat} {sg : Nat → RV} {r c : Nat} {C : List Nat} {b : List RV} (h : BI A R sg r c C b) (h9 : ∀ w ∈ A, ∀ j, j < 6 → (w j).natAbs ≤ 9) (hc : c ≤ 6) : (det C b).natAbs ≤ 382637520 := by
  obtain ⟨a1, a2, a3, a4, a5, a6, a7, a8, a9, a10⟩ := h
  have hr := pcn_le A c
  refine Nat.le_trans (det_bd C b (by simp [a1]) (fun v hv q hq => ?_)) (fc9_le (by omega))
  exact h9 v (a6 v hv) q (by have := a9 q hq; omega)
