/-! Part 89: tokens: what both sides say of one place of one tape. -/
def tokE (T : Nat → Int) (L b : Nat) : Nat := if b = L then L else if low (T b) = true then spn low T (L - b) b else if dig (T b) = true then spn dig T (L - b) b else b + 1
def tokT (T : Nat → Int) (L b : Nat) : Int := if b = L then 0 else if low (T b) = true then (if spn low T (L - b) b > b + 8 then 4 else 1) else if dig (T b) = true then (if spn dig T (L - b) b > b + 4 then 4 else 2) else (if sgn (T b) = true then 3 else 4)
theorem tkC_v (g : Nat → Nat → Int) (L b : Nat) : tkC g L b 9 5 = b ∧ tkC g L b 9 4 = tokE (g 10) L b ∧ tkC g L b 9 6 = tokT (g 10) L b := by
  unfold tkC tokE tokT
  by_cases q0 : b = L
  · rw [if_pos q0, if_pos q0, if_pos q0]; subst q0; exact ⟨rfl, rfl, rfl⟩
  · rw [if_neg q0, if_neg q0, if_neg q0]
    by_cases q1 : low (g 10 b) = true
    · rw [if_pos q1, if_pos q1, if_pos q1]; exact ⟨rfl, rfl, up_same⟩
    · rw [if_neg q1, if_neg q1, if_neg q1]
      by_cases q2 : dig (g 10 b) = true
      · rw [if_pos q2, if_pos q2, if_pos q2]; exact ⟨rfl, rfl, up_same⟩
      · rw [if_neg q2, if_neg q2, if_neg q2]; exact ⟨rfl, rfl, up_same⟩
theorem tkM_v (g : Nat → Nat → Int) (L b : Nat) : tkM g L b 89 21 = b ∧ tkM g L b 89 20 = tokE (g 105) L b ∧ tkM g L b 89 22 = tokT (g 105) L b := by
  unfold tkM tokE tokT
  by_cases q0 : b = L
  · rw [if_pos q0, if_pos q0, if_pos q0]; subst q0; exact ⟨rfl, rfl, rfl⟩
  · rw [if_neg q0, if_neg q0, if_neg q0]
    by_cases q1 : low (g 105 b) = true
    · rw [if_pos q1, if_pos q1, if_pos q1]; exact ⟨rfl, rfl, up_same⟩
    · rw [if_neg q1, if_neg q1, if_neg q1]
      by_cases q2 : dig (g 105 b) = true
      · rw [if_pos q2, if_pos q2, if_pos q2]; exact ⟨rfl, rfl, up_same⟩
      · rw [if_neg q2, if_neg q2, if_neg q2]; exact ⟨rfl, rfl, up_same⟩
/-- a number: the class's, the reference's -/
theorem tk_num {T : Nat → Int} {L b : Nat} (h : tokT T L b = 2) : ∃ n, n ≤ 4 ∧ tokE T L b = b + n ∧ low (T b) = false ∧ dig (T b) = true ∧ ∀ i, i < n → 48 ≤ T (b + i) ∧ T (b + i) ≤ 57 := by
  unfold tokT at h
  unfold tokE
  have hb := spn_le dig T (L - b) b
  by_cases q0 : b = L
  · rw [if_pos q0] at h; omega
  · rw [if_neg q0] at h ⊢
    by_cases q1 : low (T b) = true
    · rw [if_pos q1] at h; split at h <;> omega
    · rw [if_neg q1] at h ⊢
      by_cases q2 : dig (T b) = true
      · rw [if_pos q2] at h ⊢
        by_cases q3 : spn dig T (L - b) b > b + 4
        · rw [if_pos q3] at h; omega
        · refine ⟨spn dig T (L - b) b - b, by omega, by omega, by cases hl : low (T b); rfl; exact absurd hl q1, q2, fun i hi => ?_⟩
          exact dig_is.mp (spn_all (L - b) b (b + i) (by omega) (by omega))
      · rw [if_neg q2] at h; split at h <;> omega
/-- a word -/
theorem tk_word {T : Nat → Int} {L b : Nat} (h : tokT T L b = 1) : ∃ n, n ≤ 8 ∧ tokE T L b = b + n ∧ low (T b) = true ∧ ltr (fun i => T (b + i)) n := by
  unfold tokT at h
  unfold tokE
  have hb := spn_le low T (L - b) b
  by_cases q0 : b = L
  · rw [if_pos q0] at h; omega
  · rw [if_neg q0] at h ⊢
    by_cases q1 : low (T b) = true
    · rw [if_pos q1] at h ⊢
      by_cases q3 : spn low T (L - b) b > b + 8
      · rw [if_pos q3] at h; omega
      · refine ⟨spn low T (L - b) b - b, by omega, by omega, q1, fun i hi => ?_⟩
        exact low_is.mp (spn_all (L - b) b (b + i) (by omega) (by omega))
    · rw [if_neg q1] at h
      by_cases q2 : dig (T b) = true
      · rw [if_pos q2] at h; split at h <;> omega
      · rw [if_neg q2] at h; split at h <;> omega
