/-! LAND: words -/
def WL : List (List Nat) := [[115, 104, 101, 101, 116], [99, 101, 108, 108, 115], [115, 97, 118, 101, 115], [109, 97, 114, 107], [110, 101, 97, 114], [109, 111, 118, 101, 115], [115, 116, 117, 99, 107], [102, 114, 111, 109], [116, 111], [32, 115, 104, 101, 101, 116, 32, 109, 97, 114, 107, 32, 110, 101, 97, 114, 32, 109, 111, 118, 101, 115, 32, 115, 116, 117, 99, 107, 32, 99, 101, 108, 108, 115, 32, 115, 97, 118, 101, 115, 32, 102, 114, 111, 109, 32, 116, 111, 32]]
def WQ (q : Nat) : List Nat := WL.getD q []
theorem len_d : ∀ q : Fin 10, nI (jsB.getD q []).length >>> ((0 : Int32) &&& 31) = nI (WQ q).length ∧ (jsB.getD q []).length = (WQ q).length ∧ (WQ q).length ≤ 49 := by decide +kernel
theorem chr_d : ∀ q : Fin 10, ∀ i : Fin 49, i.val < (WQ q).length → (((((jsB.getD q []).getD i 0) &&& 255)).toUInt32 % 65536).toInt32 = nI ((WQ q).getD i 0) ∧ (WQ q).getD i 0 < 128 := by decide +kernel
theorem nar3_d : ∀ w : Fin 128, narOK 3 (nI w) = true := by decide +kernel
theorem eLen {N q : Nat} (hq : q < 10) (h : MH) : f_String_length N q h = some (nI (WQ q).length, h) := by
  have d := (len_d ⟨q, hq⟩).1
  have d' : nI (jsB.getD q []).length >>> ((0 : Int32) &&& 31) = nI (WQ q).length := d
  unfold f_String_length f_String_coder
  have e : narOK 2 0 = true := rfl
  rw [if_neg (by decide), e]
  dsimp only
  rw [bnd_some]
  dsimp only
  rw [d']
theorem eChar {N q i : Nat} (hq : q < 10) (hi : i < (WQ q).length) (h : MH) : f_String_charAt N q (nI i) h = some (nI ((WQ q).getD i 0), h) := by
  have l1 : (jsB.getD q []).length = (WQ q).length := (len_d ⟨q, hq⟩).2.1
  have l2 : (WQ q).length ≤ 49 := (len_d ⟨q, hq⟩).2.2
  have c := chr_d ⟨q, hq⟩ ⟨i, by omega⟩ hi
  have c1 : (((((jsB.getD q []).getD i 0) &&& 255)).toUInt32 % 65536).toInt32 = nI ((WQ q).getD i 0) := c.1
  have c2 : (WQ q).getD i 0 < 128 := c.2
  have n3 : narOK 3 (nI ((WQ q).getD i 0)) = true := nar3_d ⟨_, c2⟩
  unfold f_String_charAt f_String_isLatin1 f_StringLatin1_charAt f_String_checkIndex
  rw [if_neg (by decide), if_pos rfl, bnd_some]
  dsimp only
  rw [if_neg (by decide), l1, if_pos (by rw [show (0 : Int32) = nI 0 from rfl, nN_le (by omega) (by omega)]; omega), if_pos (by rw [nN_lt (by omega) (by omega)]; exact hi), bnd_some, if_pos (by rw [inB_nI (by omega)]; exact hi), iN_nI (by omega), c1, n3]
  dsimp only
  rw [bnd_some]
  dsimp only
  rw [n3]
theorem sB_d : ∀ b : Fin 256, (sB b).toInt = if b.val < 128 then (b.val : Int) else (b.val : Int) - 256 := by decide +kernel
theorem sB_eq {b w : Nat} (hb : b < 256) (hw : w < 128) : sB b = nI w ↔ b = w := by
  have d : (sB b).toInt = if b < 128 then (b : Int) else (b : Int) - 256 := sB_d ⟨b, hb⟩
  rw [← Int32.toInt_inj, d, nN_toInt (by omega)]
  split <;> omega
theorem sB_inj {b w : Nat} (hb : b < 256) (hw : w < 256) : sB b = sB w ↔ b = w := by
  have d : (sB b).toInt = if b < 128 then (b : Int) else (b : Int) - 256 := sB_d ⟨b, hb⟩
  have d2 : (sB w).toInt = if w < 128 then (w : Int) else (w : Int) - 256 := sB_d ⟨w, hw⟩
  rw [← Int32.toInt_inj, d, d2]
  split <;> split <;> omega
/-- the bytes of a token -/
def wdB (B : Nat → Nat) (t : Nat × Nat × Nat × Nat) : List Nat := (List.range (t.2.2.1 - t.2.1)).map (fun i => B (t.2.1 + i))
theorem wdB_eq {B : Nat → Nat} {t : Nat × Nat × Nat × Nat} {l : List Nat} : wdB B t = l ↔ t.2.2.1 - t.2.1 = l.length ∧ ∀ j, j < l.length → B (t.2.1 + j) = l.getD j 0 := by
  unfold wdB
  constructor
  · rintro rfl
    refine ⟨by simp, fun j hj => ?_⟩
    simp at hj
    simp [List.getD_eq_getElem?_getD, hj]
  · rintro ⟨h1, h2⟩
    apply List.ext_getElem
    · simp; exact h1
    · intro i h3 h4
      have := h2 i h4
      simp [List.getD_eq_getElem?_getD, h4] at this
      simp [this]
/-- a token that can be: where it lies, what it is -/
def TG (B : Nat → Nat) (n : Nat) (t : Nat × Nat × Nat × Nat) : Prop := t.1 ≤ 4 ∧ t.2.1 ≤ n ∧ (t.1 ≠ 1 → t.2.1 ≤ t.2.2.1 ∧ t.2.2.1 ≤ n) ∧ (t.1 ≠ 1 → t.1 ≠ 0 → t.2.1 < t.2.2.1) ∧ (t.1 = 2 → ∀ j, t.2.1 ≤ j → j < t.2.2.1 → ltr (B j) = true) ∧ (t.1 = 3 → t.2.2.2 ≤ 9999) ∧ (t.1 = 4 → t.2.2.2 = B t.2.1 ∧ t.2.1 < n) ∧ (t.1 = 0 → t.2.1 = n)
theorem tok_good {B : Nat → Nat} {n p : Nat} (hp : p ≤ n) (hB : ∀ k, k < n → B k < 256) : TG B n (tok B n p) ∧ p ≤ (tok B n p).2.1 := by
  have rb := rn_all (q := blk) (B := B) (n := n) (n - p) p (by omega)
  refine ⟨?_, by rw [tok_st]; exact rb.1⟩
  unfold tok
  by_cases c0 : n ≤ rn blk B n p
  · rw [if_pos c0]
    refine ⟨?_, ?_, fun _ => ⟨?_, ?_⟩, fun _ q => absurd rfl q, fun q => absurd q ?_, fun q => absurd q ?_, fun q => absurd q ?_, fun _ => ?_⟩ <;> dsimp only <;> omega
  rw [if_neg c0]
  by_cases c1 : ltr (B (rn blk B n p)) = true
  · rw [if_pos c1]
    have rl := rn_all (q := ltr) (B := B) (n := n) (n - rn blk B n p) (rn blk B n p) (by omega)
    have g := rn_go (q := ltr) (B := B) (n := n) (p := rn blk B n p) (by omega) c1
    have rl2 := rn_all (q := ltr) (B := B) (n := n) (n - (rn blk B n p + 1)) (rn blk B n p + 1) (by omega)
    refine ⟨?_, ?_, fun _ => ⟨?_, ?_⟩, fun _ _ => ?_, fun _ => rl.2.2.1, fun q => absurd q ?_, fun q => absurd q ?_, fun q => absurd q ?_⟩ <;> dsimp only <;> omega
  rw [if_neg c1]
  by_cases c2 : dgt (B (rn blk B n p)) = true
  · rw [if_pos c2]
    have rl := rn_all (q := dgt) (B := B) (n := n) (n - rn blk B n p) (rn blk B n p) (by omega)
    have g := rn_go (q := dgt) (B := B) (n := n) (p := rn blk B n p) (by omega) c2
    have rl2 := rn_all (q := dgt) (B := B) (n := n) (n - (rn blk B n p + 1)) (rn blk B n p + 1) (by omega)
    by_cases c3 : rn dgt B n (rn blk B n p) ≤ rn blk B n p + 4
    · rw [if_pos c3]
      have bd := vl_le (B := B) (st := rn blk B n p) (rn dgt B n (rn blk B n p) - rn blk B n p) (fun j hj => by
        have := (dig_v ⟨B (rn blk B n p + j), hB _ (by omega)⟩ (rl.2.2.1 _ (by omega) (by omega))).2.2
        exact this)
      have p10 : 10 ^ (rn dgt B n (rn blk B n p) - rn blk B n p) ≤ 10 ^ 4 := Nat.pow_le_pow_right (by omega) (by omega)
      refine ⟨?_, ?_, fun _ => ⟨?_, ?_⟩, fun _ _ => ?_, fun q => absurd q ?_, fun _ => ?_, fun q => absurd q ?_, fun q => absurd q ?_⟩ <;> dsimp only <;> omega
    · rw [if_neg c3]
      refine ⟨?_, ?_, fun q => absurd rfl q, fun q => absurd rfl q, fun q => absurd q ?_, fun q => absurd q ?_, fun q => absurd q ?_, fun q => absurd q ?_⟩ <;> dsimp only <;> omega
  rw [if_neg c2]
  by_cases c3 : sgnB (B (rn blk B n p)) = true
  · rw [if_pos c3]
    refine ⟨?_, ?_, fun _ => ⟨?_, ?_⟩, fun _ _ => ?_, fun q => absurd q ?_, fun q => absurd q ?_, fun _ => ⟨rfl, ?_⟩, fun q => absurd q ?_⟩ <;> dsimp only <;> omega
  · rw [if_neg c3]
    refine ⟨?_, ?_, fun q => absurd rfl q, fun q => absurd rfl q, fun q => absurd q ?_, fun q => absurd q ?_, fun q => absurd q ?_, fun q => absurd q ?_⟩ <;> dsimp only <;> omega
theorem kc_eq {k : Nat} (hk : k ≤ 4) (j : Nat) (hj : j ≤ 4) : (nI (kc k) = nI (kc j)) = (k = j) := by
  unfold kc
  rw [nN_inj (by split; omega; split <;> omega) (by split; omega; split <;> omega)]
  apply propext
  split <;> split <;> (try split) <;> (try split) <;> omega
/-- whether a token is a sign -/
def isg (t : Nat × Nat × Nat × Nat) (c : Nat) : Prop := t.1 = 4 ∧ t.2.2.2 = c
theorem eSignS {N n : Nat} {B : Nat → Nat} {t : Nat × Nat × Nat × Nat} {h : MH} (x : CX n B h) (g : TG B n t) (k : CK h t) {c : Nat} (hc : c < 128) [Decidable (isg t c)] : f_Reader_isSign N (nI c) h = some (if isg t c then 1 else 0, h) := by
  have n6 := x.1
  obtain ⟨g0, g1, -, -, -, -, g4, -⟩ := g
  unfold f_Reader_isSign
  rw [k.1, k.2.1, show (3 : Int32) = nI (kc 4) from rfl]
  simp only [kc_eq g0 4 (by omega)]
  by_cases z : t.1 = 4
  · obtain ⟨v1, v2⟩ := g4 z
    obtain ⟨b1, b2⟩ := x.2.2 t.2.1 v2
    rw [if_pos z, show (600 : Int32) = nI 600 from rfl, if_neg (by rw [nN_le (by omega) (by omega)]; omega), if_pos (by rw [inB_nI (by omega)]; omega), iN_nI (by omega), b2]
    by_cases y : B t.2.1 = c
    · rw [if_pos ((sB_eq b1 hc).mpr y), if_pos (show isg t c from ⟨z, by rw [v1, y]⟩)]
    · rw [if_neg (fun w => y ((sB_eq b1 hc).mp w)), if_neg (show ¬ isg t c from fun w => y (by rw [← v1]; exact w.2))]
  · rw [if_neg z, if_neg (show ¬ isg t c from fun w => z w.1)]
theorem eSignM {N n : Nat} {B : Nat → Nat} {t : Nat × Nat × Nat × Nat} {h : MH} (x : MX n B h) (g : TG B n t) (k : MK h t) {c : Nat} (hc : c < 128) [Decidable (isg t c)] : f_M_isSign N (nI c) h = some (if isg t c then 1 else 0, h) := by
  have n6 := x.1
  obtain ⟨g0, g1, -, -, -, -, g4, -⟩ := g
  unfold f_M_isSign
  rw [k.1, show (4 : Int32) = nI 4 from rfl]
  simp only [nN_inj (show t.1 < 2147483648 by omega) (show 4 < 2147483648 by omega)]
  by_cases z : t.1 = 4
  · obtain ⟨v1, v2⟩ := g4 z
    have b1 := (x.2.2 t.2.1 v2).1
    rw [if_pos z, k.2.2.2.2 z]
    simp only [nN_inj (show t.2.2.2 < 2147483648 by omega) (show c < 2147483648 by omega)]
    by_cases y : t.2.2.2 = c
    · rw [if_pos y, if_pos (show isg t c from ⟨z, y⟩)]
    · rw [if_neg y, if_neg (show ¬ isg t c from fun w => y w.2)]
  · rw [if_neg z, if_neg (show ¬ isg t c from fun w => z w.1)]
/-- whether a token is a word -/
def isw (B : Nat → Nat) (t : Nat × Nat × Nat × Nat) (q : Nat) : Prop := t.1 = 2 ∧ wdB B t = WQ q
theorem eWordS {N n : Nat} (hN : 100 < N) {B : Nat → Nat} {t : Nat × Nat × Nat × Nat} {h : MH} (x : CX n B h) (g : TG B n t) (k : CK h t) {q : Nat} (hq : q < 10) [Decidable (isw B t q)] : f_Reader_isWord N q h = some (if isw B t q then 1 else 0, h) := by
  have n6 := x.1
  have l2 : (WQ q).length ≤ 49 := (len_d ⟨q, hq⟩).2.2
  obtain ⟨g0, g1, g2, -⟩ := g
  unfold f_Reader_isWord F_Reader_isWord_0
  rw [k.1, show (1 : Int32) = nI (kc 2) from rfl]
  simp only [kc_eq g0 2 (by omega)]
  by_cases z : t.1 = 2
  case neg => rw [if_neg z, if_neg (show ¬ isw B t q from fun w => z w.1)]
  obtain ⟨g3, g4⟩ := g2 (by omega)
  rw [if_pos z, eLen hq, bnd_some, k.2.2.1 (by omega), k.2.1, nN_sub g3]
  dsimp only
  simp only [nN_inj (show t.2.2.1 - t.2.1 < 2147483648 by omega) (show (WQ q).length < 2147483648 by omega)]
  by_cases y : t.2.2.1 - t.2.1 = (WQ q).length
  case neg => rw [if_neg y, if_neg (show ¬ isw B t q from fun w => y (wdB_eq.mp w.2).1)]
  rw [if_pos y]
  have main : ∀ (d i f : Nat), i + d = (WQ q).length → d < f → (∀ j, j < i → B (t.2.1 + j) = (WQ q).getD j 0) → L_Reader_isWord N f q (nI i) h = some (if isw B t q then 1 else 0, h) := by
    intro d
    induction d with
    | zero =>
      intro i f hd hf ho
      obtain ⟨f, rfl⟩ : ∃ z, f = z + 1 := ⟨f - 1, by omega⟩
      show F_Reader_isWord_28 N (L_Reader_isWord N f) q (nI i) h = _
      unfold F_Reader_isWord_28
      rw [eLen hq, bnd_some]
      dsimp only
      rw [if_pos (by rw [nN_le (by omega) (by omega)]; omega), if_pos (show isw B t q from ⟨z, wdB_eq.mpr ⟨y, fun j hj => ho j (by omega)⟩⟩)]
    | succ d ih =>
      intro i f hd hf ho
      obtain ⟨f, rfl⟩ : ∃ z, f = z + 1 := ⟨f - 1, by omega⟩
      have hi : i < (WQ q).length := by omega
      obtain ⟨b1, b2⟩ := x.2.2 (t.2.1 + i) (by omega)
      have c2 : (WQ q).getD i 0 < 128 := (chr_d ⟨q, hq⟩ ⟨i, by omega⟩ hi).2
      show F_Reader_isWord_28 N (L_Reader_isWord N f) q (nI i) h = _
      unfold F_Reader_isWord_28
      rw [eLen hq, bnd_some]
      dsimp only
      rw [if_neg (by rw [nN_le (by omega) (by omega)]; omega), k.2.1, nN_add, if_pos (by rw [inB_nI (by omega)]; omega), eChar hq hi, bnd_some]
      dsimp only
      rw [iN_nI (by omega), b2, show nI i + 1 = nI (i + 1) from nN_add i 1]
      by_cases w : B (t.2.1 + i) = (WQ q).getD i 0
      · rw [if_pos ((sB_eq b1 c2).mpr w)]
        exact ih (i + 1) f (by omega) (by omega) (fun j hj => by
          by_cases v : j = i
          · rw [v]; exact w
          · exact ho j (by omega))
      · rw [if_neg (fun v => w ((sB_eq b1 c2).mp v)), if_neg (show ¬ isw B t q from fun v => w ((wdB_eq.mp v.2).2 i hi))]
  exact main (WQ q).length 0 (N + 1) (by omega) (by omega) (fun j hj => absurd hj (Nat.not_lt_zero _))
