/-! Part 69: strike and lost. -/
/-- a bit taken out -/
theorem tb_out (a : Int) (k i : Nat) (hk : k < 64) (hi : i < 64) : tb (land64 a (lxor64 (lshl64 1 (k : Int)) (-1))) i = (tb a i && !decide (i = k)) := by
  rw [tb_and, tb_xor, tb_1sh k i hk, tb_m1 i hi, Bool.xor_true]
section KEEP2
variable (X : MExt)
theorem op_strike (x1 : Int) : Op X 99 160 3 [(0, x1)] := by
  intro E c s d g h hb
  have hle := h.1.le
  by_cases hc : 0 ≤ x1 ∧ x1 < nE g ∧ g 104 x1.toNat = 0
  case neg => exact ⟨0, _, _, (c99 X E c s h.1 d x1).trans (if_neg hc), (m160 X E c s h.1.rn d x1).trans (if_neg hc), I0_z h, fr_z⟩
  refine ⟨1, _, _, (c99 X E c s h.1 d x1).trans (if_pos hc), (m160 X E c s (g := up g 30 1 (land64 (g 30 1) (lxor64 (lshl64 1 x1) (-1)))) h.1.rn d x1).trans (if_pos hc), ⟨?_, h.2.1.fr ?_, h.2.2.1.fr ?_, h.2.2.2.1.fr ?_, h.2.2.2.2.1.fr ?_, h.2.2.2.2.2.fr ?_⟩, ?_⟩
  case refine_1 =>
    obtain ⟨k, rfl⟩ := Int.eq_ofNat_of_zero_le hc.1
    obtain ⟨a1, a2, a3, a4, a5, a6, a7, a8, a9, a10, a11, a12, a13, a14, a15, a16, a17⟩ := h.1
    refine ⟨a1, a2, a3, in64_and _ _, fun e he => ?_, a6, a7, a8, a9, a10, a11, a12, a13, a14, a15, fun e => ?_, a17⟩
    case refine_2 => 
      have b := a16 e
      show up g 104 (Int.toNat k) (bit1 1) 104 e = 0 ∨ up g 104 (Int.toNat k) (bit1 1) 104 e = 1
      rw [up_at, b1_1]
      split <;> omega
    have b := a5 e he
    show tb (land64 (g 30 1) (lxor64 (lshl64 1 (k : Int)) (-1))) e = decide (e < nE g ∧ up g 104 (Int.toNat k) (bit1 1) 104 e = 0)
    rw [tb_out _ _ _ (by omega) he, b, up_at, b1_1, Int.toNat_natCast]
    by_cases q : e = k
    · subst q; simp
    · simp [q]
  all_goals repeat (first | exact fr_refl _ _ | refine fr_up rfl ?_)
theorem op_lost (x1 x2 : Int) : Op X 100 163 3 [(0, x1), (0, x2)] := by
  intro E c s d g h hb
  have hle := h.1.le
  have e9 : g 34 x1.toNat = g 102 x1.toNat := h.1.2.2.2.2.2.2.2.2.1 _
  by_cases hc : (0 ≤ x1 ∧ x1 < nE g) ∧ (0 ≤ x2 ∧ x2 ≤ g 34 (Int.toNat x1))
  case neg => exact ⟨0, _, _, (c100 X E c s h.1 d x1 x2).trans (if_neg hc), (m163 X E c s h.1.rn d x1 x2).trans (if_neg (by rw [← e9]; exact hc)), I0_z h, fr_z⟩
  refine ⟨1, _, _, (c100 X E c s h.1 d x1 x2).trans (if_pos hc), (m163 X E c s (g := up g 35 (Int.toNat x1) x2) h.1.rn d x1 x2).trans (if_pos (by rw [e9] at hc; exact hc)), ⟨?_, h.2.1.fr ?_, h.2.2.1.fr ?_, h.2.2.2.1.fr ?_, h.2.2.2.2.1.fr ?_, h.2.2.2.2.2.fr ?_⟩, ?_⟩
  case refine_1 =>
    obtain ⟨a1, a2, a3, a4, a5, a6, a7, a8, a9, a10, a11, a12, a13, a14, a15, a16, a17⟩ := h.1
    refine ⟨a1, a2, a3, a4, a5, a6, a7, a8, a9, fun i => ?_, a11, fun i => ?_, a13, a14, a15, a16, a17⟩
    all_goals
      have b10 := a10 i; have b12 := a12 i; have b13 := a13 x1.toNat
      simp [up_at, up_cell]
      by_cases q : i = x1.toNat
      · simp [q] <;> omega
      · simp [q] <;> omega
  all_goals repeat (first | exact fr_refl _ _ | refine fr_up rfl ?_)
end KEEP2
