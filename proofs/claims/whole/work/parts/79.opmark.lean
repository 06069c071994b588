/-! Part 79: mark answers alike and keeps what holds. -/
theorem b1_id {x : Int} (h : x = 0 ∨ x = 1) : bit1 x = x := by unfold bit1; omega
theorem putM_get (u : Nat → Nat → Int) (m x j : Nat) : putM u m x j = if x = 157 ∧ 10 * m ≤ j ∧ j < 10 * m + 10 then u 130 (j - 10 * m) else if x = 155 ∧ 40 * m ≤ j ∧ j < 40 * m + 40 then bit1 (u 104 (j - 40 * m)) else if x = 156 ∧ 40 * m ≤ j ∧ j < 40 * m + 40 then u 103 (j - 40 * m) else putM0 u m x j := by
  unfold putM
  rw [pM2_get, pM1_get, pM1_get]
  by_cases h : x = 157 ∧ 10 * m ≤ j ∧ j < 10 * m + 10
  · rw [if_pos h, if_pos h, if_neg (by omega), if_neg (by omega)]; rfl
  · rw [if_neg h, if_neg h]; rfl
theorem getM_get (u : Nat → Nat → Int) (m x j : Nat) : getM u m x j = if x = 153 ∧ j < 4 ∧ u 153 m < u 153 j then 0 else if x = 130 ∧ j < 10 then u 157 (10 * m + j) else if x = 104 ∧ j < 40 then bit1 (u 155 (40 * m + j)) else if x = 103 ∧ j < 40 then u 156 (40 * m + j) else getM0 u m x j := by
  unfold getM
  rw [gM3_get, gM2_get m _ 10 153 m, gM2_get m _ 10 153 j, gM2_get m _ 10 x j, gM1_get m _ 40 153 m, gM1_get m _ 40 153 j, gM1_get m _ 40 157 (10 * m + j), gM1_get m _ 40 x j]
  rw [if_neg (show ¬ (153 = 130 ∧ m < 10) by omega), if_neg (show ¬ (153 = 130 ∧ j < 10) by omega), if_neg (show ¬ (153 = 104 ∧ m < 40) by omega), if_neg (show ¬ (153 = 103 ∧ m < 40) by omega), if_neg (show ¬ (153 = 104 ∧ j < 40) by omega), if_neg (show ¬ (153 = 103 ∧ j < 40) by omega), if_neg (show ¬ (157 = 104 ∧ 10 * m + j < 40) by omega), if_neg (show ¬ (157 = 103 ∧ 10 * m + j < 40) by omega)]
  rfl
theorem putC_get (g : Nat → Nat → Int) (m x j : Nat) : putC g m x j = if x = 82 + m ∧ j < 10 then (if 39 = 77 + m then g 35 j else g 39 j) else if x = 77 + m ∧ j < 40 then g 35 j else if x = 75 ∧ j = m then g 30 1 else if x = 74 ∧ j = m then g 30 0 else if x = 73 ∧ j = m then w32 (g 72 5 + 1) else if x = 72 ∧ j = 5 then w32 (g 72 5 + 1) else g x j := by
  unfold putC cpy up
  simp only [Nat.zero_le, true_and, Nat.zero_add, Nat.sub_zero]
  by_cases h1 : x = 82 + m ∧ j < 10
  · rw [if_pos h1, if_pos h1]
    rw [if_neg (show ¬ (39 = 77 + m ∧ j < 40) by omega), if_neg (show ¬ (39 = 77 + m) by omega)]
    simp
  · rw [if_neg h1, if_neg h1]
    by_cases h2 : x = 77 + m ∧ j < 40
    · rw [if_pos h2, if_pos h2]; simp
    · rw [if_neg h2, if_neg h2]
theorem getC_get (g : Nat → Nat → Int) (m x j : Nat) : fo (dropC m) (getC g m) 4 x j = if x = 73 ∧ j < 4 ∧ g 73 m < g 73 j then 0 else if x = 39 ∧ j < 10 then g (82 + m) j else if x = 35 ∧ j < 40 then g (77 + m) j else if x = 30 ∧ j = 1 then g 75 m else if x = 30 ∧ j = 0 then g 74 m else g x j := by
  have e : ∀ x j, getC g m x j = if x = 39 ∧ j < 10 then g (82 + m) j else if x = 35 ∧ j < 40 then g (77 + m) j else if x = 30 ∧ j = 1 then g 75 m else if x = 30 ∧ j = 0 then g 74 m else g x j := by
    intro x j
    unfold getC cpy up
    simp only [Nat.zero_le, true_and, Nat.zero_add, Nat.sub_zero]
    by_cases h1 : x = 39 ∧ j < 10
    · rw [if_pos h1, if_pos h1, if_neg (by omega), if_neg (by omega), if_neg (by omega)]
    · rw [if_neg h1, if_neg h1]
      by_cases h2 : x = 35 ∧ j < 40
      · rw [if_pos h2, if_pos h2, if_neg (by omega), if_neg (by omega)]
      · rw [if_neg h2, if_neg h2]
  rw [dropC_get, e 73, e 73, e x j]
  simp only [show ¬ (73 = 39) by decide, show ¬ (73 = 35) by decide, show ¬ (73 = 30) by decide, false_and, if_false]
