/-! Part au: a set's pieces. -/
theorem pB_0 (fp : Nat → Nat) (s : Nat) : pB fp s 0 = 0 := rfl
theorem pB_s (fp : Nat → Nat) (s n : Nat) : pB fp s (n + 1) = if s.testBit n = true then lor64 (pB fp s n) (lshl64 1 (fp n : Int)) else pB fp s n := rfl
theorem pB_base {fp fp' : Nat → Nat} {s n : Nat} (he : ∀ i, i < n → fp i = fp' i) : ∀ k, k ≤ n → pB fp s k = pB fp' s k := by
  intro k
  induction k with
  | zero => intro _; rw [pB_0, pB_0]
  | succ k ih =>
    intro hk
    rw [pB_s, pB_s, ih (Nat.le_of_succ_le hk), he k hk]
theorem bit_far {s n : Nat} (hs : s < 2 ^ n) (k : Nat) : s.testBit (n + k) = false := Nat.testBit_lt_two_pow (Nat.lt_of_lt_of_le hs (Nat.pow_le_pow_right (n := 2) (by decide) (Nat.le_add_right n k)))
/-- .. no more of them than the set is long -/
theorem pB_far {fp : Nat → Nat} {s n : Nat} (hs : s < 2 ^ n) (k : Nat) : pB fp s (n + k) = pB fp s n := by
  induction k with
  | zero => rfl
  | succ k ih =>
    rw [← Nat.add_assoc, pB_s, bit_far hs k, if_neg Bool.false_ne_true, ih]
theorem pB_more {fp fp' : Nat → Nat} {s n : Nat} (hs : s < 2 ^ n) (he : ∀ i, i < n → fp i = fp' i) (m : Nat) (hm : n ≤ m) : pB fp s m = pB fp' s n := by
  obtain ⟨k, hk⟩ := Nat.exists_eq_add_of_le hm
  rw [hk, pB_far hs k]
  exact pB_base he n (Nat.le_refl n)
