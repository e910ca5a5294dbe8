/-! DETERMINANTS by their first column, rows as functions -/
abbrev RV : Type := Nat → Int
def lapl (g : List RV → Int) (c : Nat) : List RV → List RV → Int
  | _, [] => 0
  | pre, r :: rest => r c * g (pre ++ rest) - lapl g c (pre ++ [r]) rest
def det : List Nat → List RV → Int
  | [], _ => 1
  | c :: cs, rows => lapl (det cs) c [] rows
def cmb (x : Int) (u : RV) (y : Int) (v : RV) : RV := fun j => x * u j + y * v j
def LinG (g : List RV → Int) (n : Nat) : Prop := ∀ (A B : List RV) (u v : RV) (x y : Int), A.length + B.length + 1 = n → g (A ++ cmb x u y v :: B) = x * g (A ++ u :: B) + y * g (A ++ v :: B)
theorem lapl_lin1 {g : List RV → Int} {n : Nat} (hg : LinG g n) (c : Nat) (u v : RV) (x y : Int) : ∀ (rest P Q : List RV), P.length + Q.length + rest.length = n → lapl g c (P ++ cmb x u y v :: Q) rest = x * lapl g c (P ++ u :: Q) rest + y * lapl g c (P ++ v :: Q) rest := by
  intro rest
  induction rest with
  | nil => intro P Q _; simp [lapl]
  | cons r rest ih =>
    intro P Q hl
    simp only [lapl, List.append_assoc, List.cons_append]
    have h1 := hg P (Q ++ rest) u v x y (by simp at hl ⊢; omega)
    have h2 := ih P (Q ++ [r]) (by simp at hl ⊢; omega)
    rw [h1, h2]
    simp only [Int.mul_add, Int.mul_sub, Int.add_mul]
    have e1 : r c * (x * g (P ++ u :: (Q ++ rest))) = x * (r c * g (P ++ u :: (Q ++ rest))) := by rw [Int.mul_left_comm]
    have e2 : r c * (y * g (P ++ v :: (Q ++ rest))) = y * (r c * g (P ++ v :: (Q ++ rest))) := by rw [Int.mul_left_comm]
    rw [e1, e2]
    omega
theorem lapl_lin2 {g : List RV → Int} {n : Nat} (hg : LinG g n) (c : Nat) (u v : RV) (x y : Int) (B : List RV) : ∀ (A pre : List RV), pre.length + A.length + B.length = n → lapl g c pre (A ++ cmb x u y v :: B) = x * lapl g c pre (A ++ u :: B) + y * lapl g c pre (A ++ v :: B) := by
  intro A
  induction A with
  | nil =>
    intro pre hl
    simp only [List.nil_append, lapl]
    rw [show pre ++ [cmb x u y v] = pre ++ cmb x u y v :: [] from rfl, lapl_lin1 hg c u v x y B pre [] (by simp at hl ⊢; omega)]
    simp only [cmb, Int.mul_sub, Int.add_mul, Int.mul_assoc]
    omega
  | cons a A ih =>
    intro pre hl
    simp only [List.cons_append, lapl]
    have h1 := hg (pre ++ A) B u v x y (by simp at hl ⊢; omega)
    have h2 := ih (pre ++ [a]) (by simp at hl ⊢; omega)
    simp only [List.append_assoc] at h1
    rw [h1, h2]
    simp only [Int.mul_add, Int.mul_sub]
    have e1 : a c * (x * g (pre ++ (A ++ u :: B))) = x * (a c * g (pre ++ (A ++ u :: B))) := by rw [Int.mul_left_comm]
    have e2 : a c * (y * g (pre ++ (A ++ v :: B))) = y * (a c * g (pre ++ (A ++ v :: B))) := by rw [Int.mul_left_comm]
    rw [e1, e2]
    omega
theorem det_lin : ∀ (cs : List Nat), LinG (det cs) cs.length
  | [] => fun A B u v x y h => by simp at h
  | c :: cs => fun A B u v x y h => by
    have := lapl_lin2 (det_lin cs) c u v x y B A [] (by simp at h ⊢; omega)
    exact this
def AltG (g : List RV → Int) (n : Nat) : Prop := ∀ (A B : List RV) (u : RV), A.length + B.length + 2 = n → g (A ++ u :: u :: B) = 0
theorem lapl_alt1 {g : List RV → Int} {n : Nat} (hg : AltG g n) (c : Nat) (u : RV) : ∀ (rest P Q : List RV), P.length + Q.length + 1 + rest.length = n → lapl g c (P ++ u :: u :: Q) rest = 0 := by
  intro rest
  induction rest with
  | nil => intro P Q _; rfl
  | cons r rest ih =>
    intro P Q hl
    simp only [lapl, List.append_assoc, List.cons_append]
    rw [hg P (Q ++ rest) u (by simp at hl ⊢; omega), ih P (Q ++ [r]) (by simp at hl ⊢; omega)]
    simp
theorem lapl_alt2 {g : List RV → Int} {n : Nat} (hg : AltG g n) (c : Nat) (u : RV) (B : List RV) : ∀ (A pre : List RV), pre.length + A.length + B.length + 1 = n → lapl g c pre (A ++ u :: u :: B) = 0 := by
  intro A
  induction A with
  | nil =>
    intro pre hl
    simp only [List.nil_append, lapl, List.append_assoc, List.cons_append, List.singleton_append]
    rw [lapl_alt1 hg c u B pre [] (by simp at hl ⊢; omega)]
    omega
  | cons a A ih =>
    intro pre hl
    simp only [List.cons_append, lapl]
    have h1 := hg (pre ++ A) B u (by simp at hl ⊢; omega)
    simp only [List.append_assoc] at h1
    rw [h1, ih (pre ++ [a]) (by simp at hl ⊢; omega)]
    simp
theorem det_alt : ∀ (cs : List Nat), AltG (det cs) cs.length
  | [] => fun A B u h => by simp at h
  | c :: cs => fun A B u h => lapl_alt2 (det_alt cs) c u B A [] (by simp at h ⊢; omega)
theorem det_swap (cs : List Nat) (A B : List RV) (u v : RV) (h : A.length + B.length + 2 = cs.length) : det cs (A ++ u :: v :: B) = - det cs (A ++ v :: u :: B) := by
  have a0 := det_alt cs A B (cmb 1 u 1 v) h
  have a1 := det_lin cs A (cmb 1 u 1 v :: B) u v 1 1 (by simp; omega)
  have a2 := det_lin cs (A ++ [u]) B u v 1 1 (by simp; omega)
  have a3 := det_lin cs (A ++ [v]) B u v 1 1 (by simp; omega)
  simp only [List.append_assoc, List.singleton_append] at a2 a3
  rw [a0, a2, a3, det_alt cs A B u h, det_alt cs A B v h] at a1
  omega
theorem det_rep (cs : List Nat) (u : RV) (B : List RV) : ∀ (M A : List RV), A.length + M.length + B.length + 2 = cs.length → det cs (A ++ u :: (M ++ u :: B)) = 0 := by
  intro M
  induction M with
  | nil => intro A h; exact det_alt cs A B u (by simp at h; omega)
  | cons m M ih =>
    intro A h
    rw [List.cons_append, det_swap cs A (M ++ u :: B) u m (by simp at h ⊢; omega)]
    have := ih (A ++ [m]) (by simp at h ⊢; omega)
    simp only [List.append_assoc, List.singleton_append] at this
    rw [this]; rfl
def ZerG (g : List RV → Int) (w : RV) (n : Nat) : Prop := ∀ (A B : List RV), A.length + B.length + 1 = n → g (A ++ w :: B) = 0
theorem lapl_zer1 {g : List RV → Int} {n : Nat} {w : RV} (hg : ZerG g w n) (c : Nat) : ∀ (rest P Q : List RV), P.length + Q.length + rest.length = n → lapl g c (P ++ w :: Q) rest = 0 := by
  intro rest
  induction rest with
  | nil => intro P Q _; rfl
  | cons r rest ih =>
    intro P Q hl
    simp only [lapl, List.append_assoc, List.cons_append]
    rw [hg P (Q ++ rest) (by simp at hl ⊢; omega), ih P (Q ++ [r]) (by simp at hl ⊢; omega)]
    simp
theorem lapl_zer2 {g : List RV → Int} {n : Nat} {w : RV} (hg : ZerG g w n) {c : Nat} (hw : w c = 0) (B : List RV) : ∀ (A pre : List RV), pre.length + A.length + B.length = n → lapl g c pre (A ++ w :: B) = 0 := by
  intro A
  induction A with
  | nil =>
    intro pre hl
    simp only [List.nil_append, lapl]
    rw [show pre ++ [w] = pre ++ w :: [] from rfl, lapl_zer1 hg c B pre [] (by simp at hl ⊢; omega), hw]
    omega
  | cons a A ih =>
    intro pre hl
    simp only [List.cons_append, lapl]
    have h1 := hg (pre ++ A) B (by simp at hl ⊢; omega)
    simp only [List.append_assoc] at h1
    rw [h1, ih (pre ++ [a]) (by simp at hl ⊢; omega)]
    simp
theorem det_zer (w : RV) : ∀ (cs : List Nat), (∀ c ∈ cs, w c = 0) → ZerG (det cs) w cs.length
  | [], _ => fun A B h => by simp at h
  | c :: cs, hw => fun A B h => lapl_zer2 (det_zer w cs (fun c hc => hw c (List.mem_cons_of_mem _ hc))) (hw c List.mem_cons_self) B A [] (by simp at h ⊢; omega)
/-- the row u with the columns C and the rows b taken away -/
def TT (C : List Nat) (b : List RV) (u : RV) : RV := fun j => det (j :: C) (u :: b)
theorem lapl_zerp {g : List RV → Int} {n : Nat} {w : RV} (hg : ZerG g w n) (c : Nat) (rest P Q : List RV) (h : P.length + Q.length + rest.length = n) : lapl g c (P ++ w :: Q) rest = 0 := lapl_zer1 hg c rest P Q h
/-- the lapl rest of TT is a sum of the rows b -/
theorem lapl_span (g : List RV → Int) : ∀ (b pre : List RV), ∃ xs : List Int, xs.length = b.length ∧ ∀ j, lapl g j pre b = (b.zip xs).foldr (fun q s => q.2 * q.1 j + s) 0 := by
  intro b
  induction b with
  | nil => intro pre; exact ⟨[], rfl, fun j => rfl⟩
  | cons r b ih =>
    intro pre
    obtain ⟨xs, hx, he⟩ := ih (pre ++ [r])
    refine ⟨g (pre ++ b) :: xs.map (fun x => -x), by simp [hx], fun j => ?_⟩
    have hneg : ∀ (b : List RV) (xs : List Int), (b.zip (xs.map (fun x => -x))).foldr (fun q s => q.2 * q.1 j + s) 0 = - (b.zip xs).foldr (fun q s => q.2 * q.1 j + s) 0 := by
      intro b
      induction b with
      | nil => intro xs; rfl
      | cons r b ih =>
        intro xs
        cases xs with
        | nil => rfl
        | cons x xs =>
          simp only [List.map_cons, List.zip_cons_cons, List.foldr_cons]
          rw [ih xs, Int.neg_mul]
          omega
    simp only [lapl, List.zip_cons_cons, List.foldr_cons]
    rw [he j, hneg, Int.mul_comm]
    omega
def spn (b : List RV) (xs : List Int) : RV := fun j => (b.zip xs).foldr (fun q s => q.2 * q.1 j + s) 0
/-- a sum of rows of M beside them gives nothing -/
theorem det_spn (cs : List Nat) (A1 A2 : List RV) : ∀ (b : List RV) (xs : List Int) (M : List RV), xs.length = b.length → A1.length + A2.length + M.length + b.length + 1 = cs.length → det cs (A1 ++ spn b xs :: (A2 ++ (M ++ b))) = 0 := by
  intro b
  induction b with
  | nil =>
    intro xs M hx hl
    have h0 : spn [] xs = cmb 0 (fun _ => 0) 0 (fun _ => 0) := by funext j; simp [spn, cmb]
    rw [h0, det_lin cs A1 _ _ _ 0 0 (by simp at hl ⊢; omega)]
    simp
  | cons r b ih =>
    intro xs M hx hl
    cases xs with
    | nil => simp at hx
    | cons x xs =>
      have h0 : spn (r :: b) (x :: xs) = cmb x r 1 (spn b xs) := by funext j; simp [spn, cmb]
      rw [h0, det_lin cs A1 _ _ _ x 1 (by simp at hl ⊢; omega)]
      have e1 : det cs (A1 ++ r :: (A2 ++ (M ++ r :: b))) = 0 := by
        have := det_rep cs r b (A2 ++ M) A1 (by simp at hl ⊢; omega)
        simpa only [List.append_assoc] using this
      have e2 := ih xs (M ++ [r]) (by simpa using hx) (by simp at hl ⊢; omega)
      simp only [List.append_assoc, List.singleton_append] at e2
      rw [e1, e2]
      simp
theorem TT_eq (C : List Nat) (b : List RV) (u : RV) : ∃ xs : List Int, xs.length = b.length ∧ TT C b u = cmb (det C b) u (-1) (spn b xs) := by
  obtain ⟨xs, hx, he⟩ := lapl_span (det C) b ([] ++ [u])
  refine ⟨xs, hx, ?_⟩
  funext j
  show lapl (det C) j [] (u :: b) = _
  simp only [lapl, cmb, spn]
  rw [he j, List.nil_append, Int.mul_comm]
  omega
/-- Sylvester, at one step -/
theorem TT_step (C : List Nat) (b : List RV) (p u : RV) (q j : Nat) (hl : b.length = C.length) (hd : det C b ≠ 0) (hz : ∀ w c, c ∈ C → TT C b w c = 0) :
    det C b * TT (q :: C) (p :: b) u j = TT C b p q * TT C b u j - TT C b u q * TT C b p j := by
  obtain ⟨xs, hx, eu⟩ := TT_eq C b u
  obtain ⟨ys, hy, ep⟩ := TT_eq C b p
  have zu := det_zer (TT C b u) C (fun c hc => hz u c hc)
  have zp := det_zer (TT C b p) C (fun c hc => hz p c hc)
  -- the determinant with both rows taken away
  have key : det (j :: q :: C) (TT C b u :: TT C b p :: b) = det C b * det C b * det (j :: q :: C) (u :: p :: b) := by
    have s1 := det_lin (j :: q :: C) [] (TT C b p :: b) u (spn b xs) (det C b) (-1) (by simp; omega)
    rw [← eu] at s1
    simp only [List.nil_append] at s1
    have s2 := det_spn (j :: q :: C) [] [TT C b p] b xs [] hx (by simp; omega)
    simp only [List.nil_append, List.singleton_append] at s2
    rw [s2] at s1
    have s3 := det_lin (j :: q :: C) [u] b p (spn b ys) (det C b) (-1) (by simp; omega)
    rw [← ep] at s3
    simp only [List.singleton_append] at s3
    have s4 := det_spn (j :: q :: C) [u] [] b ys [] hy (by simp; omega)
    simp only [List.nil_append, List.singleton_append] at s4
    rw [s4] at s3
    rw [s1, s3]
    simp [Int.mul_assoc]
  have one : ∀ w, (∀ c ∈ C, w c = 0) → ∀ k, det (k :: C) (w :: b) = w k * det C b := by
    intro w hw k
    show lapl (det C) k [] (w :: b) = _
    simp only [lapl, List.nil_append]
    have := lapl_zer1 (det_zer w C hw) k b [] [] (by simp; omega)
    simp only [List.nil_append] at this
    rw [this]; omega
  have two : det (j :: q :: C) (TT C b u :: TT C b p :: b) = TT C b u j * (TT C b p q * det C b) - TT C b p j * (TT C b u q * det C b) := by
    show lapl (det (q :: C)) j [] (TT C b u :: TT C b p :: b) = _
    simp only [lapl, List.nil_append, List.singleton_append, List.cons_append]
    rw [one _ (fun c hc => hz p c hc) q, one _ (fun c hc => hz u c hc) q]
    have zz : ZerG (det (q :: C)) (TT C b u) 0 := fun A B h => by simp at h
    -- both rows stay: a column C sees one of them
    have both : ∀ (rest P : List RV), P.length + rest.length = b.length → lapl (det (q :: C)) j (TT C b u :: TT C b p :: P) rest = 0 := by
      intro rest
      induction rest with
      | nil => intro P _; rfl
      | cons r rest ih =>
        intro P hP
        have e : det (q :: C) (TT C b u :: TT C b p :: (P ++ rest)) = 0 := by
          show lapl (det C) q [] (TT C b u :: TT C b p :: (P ++ rest)) = 0
          simp only [lapl, List.nil_append, List.singleton_append, List.cons_append]
          have z1 := zp [] (P ++ rest) (by simp at hP ⊢; omega)
          have z2 := zu [] (P ++ rest) (by simp at hP ⊢; omega)
          have z3 := lapl_zer1 zu q (P ++ rest) [] [TT C b p] (by simp at hP ⊢; omega)
          simp only [List.nil_append] at z1 z2 z3
          rw [z1, z2, z3]; simp
        have e2 := ih (P ++ [r]) (by simp at hP ⊢; omega)
        simp only [lapl, List.cons_append]
        rw [e, e2]; simp
    have := both b [] (by simp)
    rw [this]; omega
  have fin : det C b * (det C b * TT (q :: C) (p :: b) u j) = det C b * (TT C b p q * TT C b u j - TT C b u q * TT C b p j) := by
    show det C b * (det C b * det (j :: q :: C) (u :: p :: b)) = _
    rw [← Int.mul_assoc, ← key, two]
    grind
  exact Int.eq_of_mul_eq_mul_left hd fin
theorem TT_van (C : List Nat) (b : List RV) (p : RV) (q : Nat) (hl : b.length = C.length) (hd : det C b ≠ 0) (hz : ∀ w c, c ∈ C → TT C b w c = 0) : ∀ w c, c ∈ q :: C → TT (q :: C) (p :: b) w c = 0 := by
  intro w c hc
  have s := TT_step C b p w q c hl hd hz
  have : det C b * TT (q :: C) (p :: b) w c = 0 := by
    rw [s]
    rcases List.mem_cons.mp hc with rfl | hc
    · grind
    · rw [hz w c hc, hz p c hc]; simp
  rcases Int.mul_eq_zero.mp this with h | h
  · exact absurd h hd
  · exact h
