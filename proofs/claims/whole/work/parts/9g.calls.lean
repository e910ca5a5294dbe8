
/-! THE LAW: the contracts of its calls -/
theorem beq_ne {a b : Nat} (h : ¬ a = b) : Nat.beq a b = false := by
  cases hb : Nat.beq a b with
  | true => exact absurd (Nat.eq_of_beq_eq_true hb) h
  | false => rfl
theorem lwc_I {l : Launch} {E : EV} (N : Nat) (xs : Nat → Int32) (j : Nat) (as : List MV) (h : MH) (x : Int32 × MH) (z : (C_Law_law N xs).2.2.2.2.1 j as h = some x) : ∃ dp', dp' + 1 ≤ 34 ∧ (false = true → x.2.1 ≤ 115) ∧ SndM l E false dp' j as h (some (.inl x.1)) x.2 := by
  dsimp only [C_Law_law] at z
  by_cases hb : j = 109
  · subst hb
    exact ⟨0, by decide, (fun z => by cases z), s_S_status (N := N) z⟩
  rw [beq_ne hb] at z
  dsimp only at z
  clear hb
  by_cases hb : j = 112
  · subst hb
    exact ⟨2, by decide, (fun z => by cases z), s_S_tray (N := N) z⟩
  rw [beq_ne hb] at z
  dsimp only at z
  clear hb
  by_cases hb : j = 113
  · subst hb
    exact ⟨3, by decide, (fun z => by cases z), s_S_write (N := N) z⟩
  rw [beq_ne hb] at z
  dsimp only at z
  clear hb
  by_cases hb : j = 115
  · subst hb
    exact ⟨2, by decide, (fun z => by cases z), s_S_pour (N := N) z⟩
  rw [beq_ne hb] at z
  dsimp only at z
  clear hb
  by_cases hb : j = 116
  · subst hb
    exact ⟨1, by decide, (fun z => by cases z), s_S_feed (N := N) z⟩
  rw [beq_ne hb] at z
  dsimp only at z
  clear hb
  by_cases hb : j = 117
  · subst hb
    exact ⟨33, by decide, (fun z => by cases z), s_S_land (N := N) z⟩
  rw [beq_ne hb] at z
  dsimp only at z
  clear hb
  by_cases hb : j = 118
  · subst hb
    exact ⟨0, by decide, (fun z => by cases z), s_S_fault (N := N) z⟩
  rw [beq_ne hb] at z
  dsimp only at z
  clear hb
  by_cases hb : j = 119
  · subst hb
    exact ⟨1, by decide, (fun z => by cases z), s_S_many (N := N) z⟩
  rw [beq_ne hb] at z
  dsimp only at z
  clear hb
  by_cases hb : j = 120
  · subst hb
    exact ⟨2, by decide, (fun z => by cases z), s_S_moves (N := N) z⟩
  rw [beq_ne hb] at z
  dsimp only at z
  clear hb
  by_cases hb : j = 121
  · subst hb
    exact ⟨2, by decide, (fun z => by cases z), s_S_row (N := N) z⟩
  rw [beq_ne hb] at z
  dsimp only at z
  clear hb
  by_cases hb : j = 122
  · subst hb
    exact ⟨2, by decide, (fun z => by cases z), s_S_offset (N := N) z⟩
  rw [beq_ne hb] at z
  dsimp only at z
  clear hb
  by_cases hb : j = 123
  · subst hb
    exact ⟨2, by decide, (fun z => by cases z), s_S_asof (N := N) z⟩
  rw [beq_ne hb] at z
  dsimp only at z
  clear hb
  by_cases hb : j = 124
  · subst hb
    exact ⟨2, by decide, (fun z => by cases z), s_S_value (N := N) z⟩
  rw [beq_ne hb] at z
  dsimp only at z
  clear hb
  by_cases hb : j = 125
  · subst hb
    exact ⟨2, by decide, (fun z => by cases z), s_S_line (N := N) z⟩
  rw [beq_ne hb] at z
  dsimp only at z
  clear hb
  by_cases hb : j = 126
  · subst hb
    exact ⟨4, by decide, (fun z => by cases z), s_S_breaks (N := N) z⟩
  rw [beq_ne hb] at z
  dsimp only at z
  clear hb
  by_cases hb : j = 127
  · subst hb
    exact ⟨6, by decide, (fun z => by cases z), s_S_slow (N := N) z⟩
  rw [beq_ne hb] at z
  dsimp only at z
  clear hb
  by_cases hb : j = 128
  · subst hb
    exact ⟨1, by decide, (fun z => by cases z), s_S_smooth (N := N) z⟩
  rw [beq_ne hb] at z
  dsimp only at z
  clear hb
  by_cases hb : j = 129
  · subst hb
    exact ⟨14, by decide, (fun z => by cases z), s_S_slips (N := N) z⟩
  rw [beq_ne hb] at z
  dsimp only at z
  clear hb
  by_cases hb : j = 130
  · subst hb
    exact ⟨14, by decide, (fun z => by cases z), s_S_ends (N := N) z⟩
  rw [beq_ne hb] at z
  dsimp only at z
  clear hb
  by_cases hb : j = 131
  · subst hb
    exact ⟨13, by decide, (fun z => by cases z), s_S_first (N := N) z⟩
  rw [beq_ne hb] at z
  dsimp only at z
  clear hb
  by_cases hb : j = 132
  · subst hb
    exact ⟨13, by decide, (fun z => by cases z), s_S_corner (N := N) z⟩
  rw [beq_ne hb] at z
  dsimp only at z
  clear hb
  by_cases hb : j = 133
  · subst hb
    exact ⟨12, by decide, (fun z => by cases z), s_S_quarrel (N := N) z⟩
  rw [beq_ne hb] at z
  dsimp only at z
  clear hb
  by_cases hb : j = 134
  · subst hb
    exact ⟨13, by decide, (fun z => by cases z), s_S_without (N := N) z⟩
  rw [beq_ne hb] at z
  dsimp only at z
  clear hb
  by_cases hb : j = 135
  · subst hb
    exact ⟨3, by decide, (fun z => by cases z), s_S_rank (N := N) z⟩
  rw [beq_ne hb] at z
  dsimp only at z
  clear hb
  by_cases hb : j = 136
  · subst hb
    exact ⟨3, by decide, (fun z => by cases z), s_S_apart (N := N) z⟩
  rw [beq_ne hb] at z
  dsimp only at z
  clear hb
  by_cases hb : j = 137
  · subst hb
    exact ⟨14, by decide, (fun z => by cases z), s_S_odds (N := N) z⟩
  rw [beq_ne hb] at z
  dsimp only at z
  clear hb
  by_cases hb : j = 138
  · subst hb
    exact ⟨2, by decide, (fun z => by cases z), s_S_shake (N := N) z⟩
  rw [beq_ne hb] at z
  dsimp only at z
  clear hb
  by_cases hb : j = 139
  · subst hb
    exact ⟨2, by decide, (fun z => by cases z), s_S_saved (N := N) z⟩
  rw [beq_ne hb] at z
  dsimp only at z
  clear hb
  by_cases hb : j = 140
  · subst hb
    exact ⟨4, by decide, (fun z => by cases z), s_S_net (N := N) z⟩
  rw [beq_ne hb] at z
  dsimp only at z
  clear hb
  by_cases hb : j = 141
  · subst hb
    exact ⟨1, by decide, (fun z => by cases z), s_S_netTold (N := N) z⟩
  rw [beq_ne hb] at z
  dsimp only at z
  clear hb
  by_cases hb : j = 142
  · subst hb
    exact ⟨4, by decide, (fun z => by cases z), s_S_few (N := N) z⟩
  rw [beq_ne hb] at z
  dsimp only at z
  clear hb
  by_cases hb : j = 143
  · subst hb
    exact ⟨1, by decide, (fun z => by cases z), s_S_fewOf (N := N) z⟩
  rw [beq_ne hb] at z
  dsimp only at z
  clear hb
  by_cases hb : j = 164
  · subst hb
    exact ⟨0, by decide, (fun z => by cases z), s_M_status (N := N) z⟩
  rw [beq_ne hb] at z
  dsimp only at z
  clear hb
  by_cases hb : j = 173
  · subst hb
    exact ⟨1, by decide, (fun z => by cases z), s_M_tray (N := N) z⟩
  rw [beq_ne hb] at z
  dsimp only at z
  clear hb
  by_cases hb : j = 175
  · subst hb
    exact ⟨2, by decide, (fun z => by cases z), s_M_write (N := N) z⟩
  rw [beq_ne hb] at z
  dsimp only at z
  clear hb
  by_cases hb : j = 177
  · subst hb
    exact ⟨1, by decide, (fun z => by cases z), s_M_pour (N := N) z⟩
  rw [beq_ne hb] at z
  dsimp only at z
  clear hb
  by_cases hb : j = 178
  · subst hb
    exact ⟨1, by decide, (fun z => by cases z), s_M_feed (N := N) z⟩
  rw [beq_ne hb] at z
  dsimp only at z
  clear hb
  by_cases hb : j = 203
  · subst hb
    exact ⟨9, by decide, (fun z => by cases z), s_M_land (N := N) z⟩
  rw [beq_ne hb] at z
  dsimp only at z
  clear hb
  by_cases hb : j = 204
  · subst hb
    exact ⟨0, by decide, (fun z => by cases z), s_M_fault (N := N) z⟩
  rw [beq_ne hb] at z
  dsimp only at z
  clear hb
  by_cases hb : j = 207
  · subst hb
    exact ⟨1, by decide, (fun z => by cases z), s_M_many (N := N) z⟩
  rw [beq_ne hb] at z
  dsimp only at z
  clear hb
  by_cases hb : j = 208
  · subst hb
    exact ⟨1, by decide, (fun z => by cases z), s_M_moves (N := N) z⟩
  rw [beq_ne hb] at z
  dsimp only at z
  clear hb
  by_cases hb : j = 212
  · subst hb
    exact ⟨1, by decide, (fun z => by cases z), s_M_row (N := N) z⟩
  rw [beq_ne hb] at z
  dsimp only at z
  clear hb
  by_cases hb : j = 213
  · subst hb
    exact ⟨1, by decide, (fun z => by cases z), s_M_offset (N := N) z⟩
  rw [beq_ne hb] at z
  dsimp only at z
  clear hb
  by_cases hb : j = 214
  · subst hb
    exact ⟨1, by decide, (fun z => by cases z), s_M_asof (N := N) z⟩
  rw [beq_ne hb] at z
  dsimp only at z
  clear hb
  by_cases hb : j = 217
  · subst hb
    exact ⟨1, by decide, (fun z => by cases z), s_M_value (N := N) z⟩
  rw [beq_ne hb] at z
  dsimp only at z
  clear hb
  by_cases hb : j = 222
  · subst hb
    exact ⟨2, by decide, (fun z => by cases z), s_M_line (N := N) z⟩
  rw [beq_ne hb] at z
  dsimp only at z
  clear hb
  by_cases hb : j = 223
  · subst hb
    exact ⟨2, by decide, (fun z => by cases z), s_M_breaks (N := N) z⟩
  rw [beq_ne hb] at z
  dsimp only at z
  clear hb
  by_cases hb : j = 225
  · subst hb
    exact ⟨2, by decide, (fun z => by cases z), s_M_slow (N := N) z⟩
  rw [beq_ne hb] at z
  dsimp only at z
  clear hb
  by_cases hb : j = 226
  · subst hb
    exact ⟨1, by decide, (fun z => by cases z), s_M_smooth (N := N) z⟩
  rw [beq_ne hb] at z
  dsimp only at z
  clear hb
  by_cases hb : j = 236
  · subst hb
    exact ⟨3, by decide, (fun z => by cases z), s_M_slips (N := N) z⟩
  rw [beq_ne hb] at z
  dsimp only at z
  clear hb
  by_cases hb : j = 237
  · subst hb
    exact ⟨3, by decide, (fun z => by cases z), s_M_ends (N := N) z⟩
  rw [beq_ne hb] at z
  dsimp only at z
  clear hb
  by_cases hb : j = 238
  · subst hb
    exact ⟨3, by decide, (fun z => by cases z), s_M_first (N := N) z⟩
  rw [beq_ne hb] at z
  dsimp only at z
  clear hb
  by_cases hb : j = 239
  · subst hb
    exact ⟨2, by decide, (fun z => by cases z), s_M_corner (N := N) z⟩
  rw [beq_ne hb] at z
  dsimp only at z
  clear hb
  by_cases hb : j = 242
  · subst hb
    exact ⟨3, by decide, (fun z => by cases z), s_M_quarrel (N := N) z⟩
  rw [beq_ne hb] at z
  dsimp only at z
  clear hb
  by_cases hb : j = 243
  · subst hb
    exact ⟨3, by decide, (fun z => by cases z), s_M_without (N := N) z⟩
  rw [beq_ne hb] at z
  dsimp only at z
  clear hb
  by_cases hb : j = 244
  · subst hb
    exact ⟨3, by decide, (fun z => by cases z), s_M_odds (N := N) z⟩
  rw [beq_ne hb] at z
  dsimp only at z
  clear hb
  by_cases hb : j = 247
  · subst hb
    exact ⟨1, by decide, (fun z => by cases z), s_M_rank (N := N) z⟩
  rw [beq_ne hb] at z
  dsimp only at z
  clear hb
  by_cases hb : j = 248
  · subst hb
    exact ⟨1, by decide, (fun z => by cases z), s_M_apart (N := N) z⟩
  rw [beq_ne hb] at z
  dsimp only at z
  clear hb
  by_cases hb : j = 249
  · subst hb
    exact ⟨1, by decide, (fun z => by cases z), s_M_shake (N := N) z⟩
  rw [beq_ne hb] at z
  dsimp only at z
  clear hb
  by_cases hb : j = 250
  · subst hb
    exact ⟨2, by decide, (fun z => by cases z), s_M_saved (N := N) z⟩
  rw [beq_ne hb] at z
  dsimp only at z
  clear hb
  by_cases hb : j = 251
  · subst hb
    exact ⟨1, by decide, (fun z => by cases z), s_M_net (N := N) z⟩
  rw [beq_ne hb] at z
  dsimp only at z
  clear hb
  by_cases hb : j = 252
  · subst hb
    exact ⟨1, by decide, (fun z => by cases z), s_M_netTold (N := N) z⟩
  rw [beq_ne hb] at z
  dsimp only at z
  clear hb
  by_cases hb : j = 253
  · subst hb
    exact ⟨1, by decide, (fun z => by cases z), s_M_few (N := N) z⟩
  rw [beq_ne hb] at z
  dsimp only at z
  clear hb
  by_cases hb : j = 254
  · subst hb
    exact ⟨1, by decide, (fun z => by cases z), s_M_fewOf (N := N) z⟩
  rw [beq_ne hb] at z
  dsimp only at z
  clear hb
  cases z
theorem lwc_J {l : Launch} {E : EV} (N : Nat) (xs : Nat → Int32) (j : Nat) (as : List MV) (h : MH) (x : Int64 × MH) (z : (C_Law_law N xs).2.2.2.2.2.1 j as h = some x) : ∃ dp', dp' + 1 ≤ 34 ∧ (false = true → x.2.1 ≤ 115) ∧ SndM l E false dp' j as h (some (.inr (.inl x.1))) x.2 := by
  dsimp only [C_Law_law] at z
  by_cases hb : j = 110
  · subst hb
    exact ⟨0, by decide, (fun z => by cases z), s_S_top (N := N) z⟩
  rw [beq_ne hb] at z
  dsimp only at z
  clear hb
  by_cases hb : j = 111
  · subst hb
    exact ⟨0, by decide, (fun z => by cases z), s_S_bottom (N := N) z⟩
  rw [beq_ne hb] at z
  dsimp only at z
  clear hb
  by_cases hb : j = 114
  · subst hb
    exact ⟨3, by decide, (fun z => by cases z), s_S_read (N := N) z⟩
  rw [beq_ne hb] at z
  dsimp only at z
  clear hb
  by_cases hb : j = 165
  · subst hb
    exact ⟨0, by decide, (fun z => by cases z), s_M_top (N := N) z⟩
  rw [beq_ne hb] at z
  dsimp only at z
  clear hb
  by_cases hb : j = 166
  · subst hb
    exact ⟨0, by decide, (fun z => by cases z), s_M_bottom (N := N) z⟩
  rw [beq_ne hb] at z
  dsimp only at z
  clear hb
  by_cases hb : j = 176
  · subst hb
    exact ⟨2, by decide, (fun z => by cases z), s_M_read (N := N) z⟩
  rw [beq_ne hb] at z
  dsimp only at z
  clear hb
  cases z
