/-! Part 68: the plain setters answer alike and keep what holds. -/
def I0 (g : Nat → Nat → Int) : Prop := RE g ∧ RV g ∧ RJ g ∧ RH g ∧ RC g ∧ RQ g
/-- class and reference at the same call: the same answer, and what holds goes on -/
def Op (X : MExt) (cj mj k : Nat) (A : List MV) : Prop := ∀ (E : List (Nat × Nat)) (c s d : Nat) (g : Nat → Nat → Int), I0 g → RB g → ∃ v g1 g2, Call prog clsT X (d + k) cj ((2, 0) :: A) (mk E c s (hh g)) = some ((0, v), mk E c s (hh g1)) ∧ Call prog clsT X (d + k) mj ((2, 89) :: A) (mk E c s (hh g1)) = some ((0, v), mk E c s (hh g2)) ∧ I0 g2 ∧ fr sRX g g2
theorem I0_z {g : Nat → Nat → Int} (h : I0 g) : I0 (up g 89 0 0) := ⟨h.1.fr (fr_up rfl (fr_refl _ _)), h.2.1.fr (fr_up rfl (fr_refl _ _)), h.2.2.1.fr (fr_up rfl (fr_refl _ _)), h.2.2.2.1.fr (fr_up rfl (fr_refl _ _)), h.2.2.2.2.1.fr (fr_up rfl (fr_refl _ _)), h.2.2.2.2.2.fr (fr_up rfl (fr_refl _ _))⟩
theorem fr_z {g : Nat → Nat → Int} : fr sRX g (up g 89 0 0) := fr_up rfl (fr_refl _ _)
theorem b1_1 : bit1 1 = 1 := rfl
theorem b1_01 (x : Int) : bit1 x = 0 ∨ bit1 x = 1 := by unfold bit1; omega
section KEEP
variable (X : MExt)
theorem op_exhibitor (x1 x2 x3 x4 : Int) : Op X 89 151 3 [(0, x1), (0, x2), (0, x3), (0, x4)] := by
  intro E c s d g h hb
  by_cases hc : (0 ≤ x1 ∧ x1 ≤ 9) ∧ (0 ≤ x2 ∧ x2 ≤ 5) ∧ (1 ≤ x3 ∧ x3 ≤ 99)
  case neg => exact ⟨0, _, _, (c89 X E c s d x1 x2 x3 x4).trans (if_neg hc), (m151 X E c s d x1 x2 x3 x4).trans (if_neg hc), I0_z h, fr_z⟩
  refine ⟨1, _, _, (c89 X E c s d x1 x2 x3 x4).trans (if_pos hc), (m151 X E c s d x1 x2 x3 x4).trans (if_pos hc), ⟨h.1.fr ?_, ?_, h.2.2.1.fr ?_, h.2.2.2.1.fr ?_, h.2.2.2.2.1.fr ?_, ?_⟩, ?_⟩
  case refine_2 =>
    obtain ⟨a1, a2, a3, a4, a5, a6, a7, a8, a9, a10, a11, a12, a13, a14, a15, a16, a17, a18⟩ := h.2.1
    have hb := b1_01 x4
    refine ⟨fun i hi => ?_, fun i => ?_, fun i hi => ?_, fun i => ?_, fun i => ?_, fun i => ?_, fun i => ?_, fun i => ?_, a9, a10, a11, a12, a13, a14, a15, a16, a17, a18⟩
    all_goals
      have b1 := a1 i; have b2 := a2 i; have b3 := a3 i; have b4 := a4 i; have b5 := a5 i; have b6 := a6 i; have b7 := a7 i; have b8 := a8 i
      generalize x1.toNat = kk
      simp [up_at, up_cell, b1_1]
      by_cases q : i = kk
      · simp [q] <;> omega
      · simp [q] <;> omega
  case refine_6 =>
    obtain ⟨q1, q2, q3⟩ := h.2.2.2.2.2
    have mono : ∀ i, g 90 i ≠ 0 → up g 90 x1.toNat (bit1 1) 90 i ≠ 0 := by
      intro i hi
      rw [up_at, b1_1]
      split
      · omega
      · exact hi
    exact ⟨fun e he => mono _ (q1 e he), fun p hp => mono _ (q2 p hp), q3⟩
  all_goals repeat (first | exact fr_refl _ _ | refine fr_up rfl ?_)

theorem op_judge (x1 x2 : Int) : Op X 101 200 3 [(0, x1), (0, x2)] := by
  intro E c s d g h hb
  by_cases hc : (0 ≤ x1 ∧ x1 ≤ 3) ∧ (0 ≤ x2 ∧ x2 ≤ 5)
  case neg => exact ⟨0, _, _, (c101 X E c s d x1 x2).trans (if_neg hc), (m200 X E c s d x1 x2).trans (if_neg hc), I0_z h, fr_z⟩
  refine ⟨1, _, _, (c101 X E c s d x1 x2).trans (if_pos hc), (m200 X E c s d x1 x2).trans (if_pos hc), ⟨h.1.fr ?_, h.2.1.fr ?_, ?_, h.2.2.2.1.fr ?_, h.2.2.2.2.1.fr ?_, h.2.2.2.2.2.fr ?_⟩, ?_⟩
  case refine_3 =>
    obtain ⟨a1, a2, a3, a4, a5, a6, a7, a8, a9, a10, a11⟩ := h.2.2.1
    refine ⟨fun i hi => ?_, fun i => ?_, fun i hi => ?_, fun i => ?_, a5, a6, a7, a8, a9, a10, a11⟩
    all_goals
      have b1 := a1 i; have b2 := a2 i; have b3 := a3 i; have b4 := a4 i
      generalize x1.toNat = kk
      simp [up_at, up_cell, b1_1]
      by_cases q : i = kk
      · simp [q] <;> omega
      · simp [q] <;> omega
  all_goals repeat (first | exact fr_refl _ _ | refine fr_up rfl ?_)

theorem op_lean (x1 x2 x3 : Int) : Op X 102 201 3 [(0, x1), (0, x2), (0, x3)] := by
  intro E c s d g h hb
  by_cases hc : (0 ≤ x1 ∧ x1 ≤ 3 ∧ g 127 x1.toNat ≠ 0) ∧ (0 ≤ x2 ∧ x2 ≤ 5) ∧ (-9 ≤ x3 ∧ x3 ≤ 9)
  case neg => exact ⟨0, _, _, (c102 X E c s h.2.2.1 d x1 x2 x3).trans (if_neg hc), (m201 X E c s d x1 x2 x3).trans (if_neg hc), I0_z h, fr_z⟩
  refine ⟨1, _, _, (c102 X E c s h.2.2.1 d x1 x2 x3).trans (if_pos hc), (m201 X E c s d x1 x2 x3).trans (if_pos hc), ⟨h.1.fr ?_, h.2.1.fr ?_, ?_, h.2.2.2.1.fr ?_, h.2.2.2.2.1.fr ?_, h.2.2.2.2.2.fr ?_⟩, ?_⟩
  case refine_3 =>
    obtain ⟨a1, a2, a3, a4, a5, a6, a7, a8, a9, a10, a11⟩ := h.2.2.1
    refine ⟨a1, a2, a3, a4, fun i => ?_, fun i => ?_, a7, a8, a9, a10, a11⟩
    all_goals
      have b5 := a5 i; have b6 := a6 i
      generalize (x1 * 6 + x2).toNat = kk
      simp [up_at, up_cell, b1_1]
      by_cases q : i = kk
      · simp [q] <;> omega
      · simp [q] <;> omega
  all_goals repeat (first | exact fr_refl _ _ | refine fr_up rfl ?_)

theorem op_table (x1 x2 : Int) : Op X 112 215 3 [(0, x1), (0, x2)] := by
  intro E c s d g h hb
  by_cases hc : (0 ≤ x1 ∧ x1 ≤ 2) ∧ (0 ≤ x2 ∧ x2 ≤ 99)
  case neg => exact ⟨0, _, _, (c112 X E c s d x1 x2).trans (if_neg hc), (m215 X E c s d x1 x2).trans (if_neg hc), I0_z h, fr_z⟩
  refine ⟨1, _, _, (c112 X E c s d x1 x2).trans (if_pos hc), (m215 X E c s d x1 x2).trans (if_pos hc), ⟨h.1.fr ?_, h.2.1.fr ?_, h.2.2.1.fr ?_, ?_, h.2.2.2.2.1.fr ?_, h.2.2.2.2.2.fr ?_⟩, ?_⟩
  case refine_4 =>
    obtain ⟨a1, a2, a3, a4, a5, a6, a7, a8⟩ := h.2.2.2.1
    refine ⟨fun i => ?_, fun i => ?_, a3, a4, a5, a6, a7, a8⟩
    all_goals
      have b1 := a1 i; have b2 := a2 i
      generalize x1.toNat = kk
      simp [up_at, up_cell, b1_1]
      by_cases q : i = kk
      · simp [q] <;> omega
      · simp [q] <;> omega
  all_goals repeat (first | exact fr_refl _ _ | refine fr_up rfl ?_)

theorem op_year (x1 x2 x3 : Int) : Op X 131 242 3 [(0, x1), (0, x2), (0, x3)] := by
  intro E c s d g h hb
  by_cases hc : (0 ≤ x1 ∧ x1 ≤ 9) ∧ (0 ≤ x2 ∧ x2 ≤ 4) ∧ ((-1) ≤ x3 ∧ x3 ≤ 99)
  case neg => exact ⟨0, _, _, (c131 X E c s d x1 x2 x3).trans (if_neg hc), (m242 X E c s d x1 x2 x3).trans (if_neg hc), I0_z h, fr_z⟩
  refine ⟨1, _, _, (c131 X E c s d x1 x2 x3).trans (if_pos hc), (m242 X E c s d x1 x2 x3).trans (if_pos hc), ⟨h.1.fr ?_, h.2.1.fr ?_, h.2.2.1.fr ?_, ?_, h.2.2.2.2.1.fr ?_, h.2.2.2.2.2.fr ?_⟩, ?_⟩
  case refine_4 =>
    obtain ⟨a1, a2, a3, a4, a5, a6, a7, a8⟩ := h.2.2.2.1
    refine ⟨a1, a2, a3, a4, a5, a6, fun i => ?_, fun i hi => ?_⟩
    all_goals
      have b7 := a7 i; have b8 := a8 i
      generalize (x1 * 5 + x2).toNat = kk
      simp [up_at, up_cell, b1_1]
      by_cases q : i = kk
      · simp [q] <;> omega
      · simp [q] <;> omega
  all_goals repeat (first | exact fr_refl _ _ | refine fr_up rfl ?_)

theorem op_prize (x1 x2 x3 : Int) : Op X 120 225 3 [(0, x1), (0, x2), (0, x3)] := by
  intro E c s d g h hb
  by_cases hc : (1 ≤ x1 ∧ x1 ≤ 3) ∧ (0 ≤ x2 ∧ x2 ≤ 99) ∧ (0 ≤ x3 ∧ x3 ≤ 999)
  case neg => exact ⟨0, _, _, (c120 X E c s d x1 x2 x3).trans (if_neg hc), (m225 X E c s d x1 x2 x3).trans (if_neg hc), I0_z h, fr_z⟩
  refine ⟨1, _, _, (c120 X E c s d x1 x2 x3).trans (if_pos hc), (m225 X E c s d x1 x2 x3).trans (if_pos hc), ⟨h.1.fr ?_, h.2.1.fr ?_, h.2.2.1.fr ?_, h.2.2.2.1.fr ?_, ?_, h.2.2.2.2.2.fr ?_⟩, ?_⟩
  case refine_5 =>
    obtain ⟨a1, a2, a3, a4, a5, a6, a7, a8, a9, a10⟩ := h.2.2.2.2.1
    refine ⟨fun i => ?_, fun i => ?_, fun i => ?_, fun i => ?_, a5, a6, a7, a8, a9, a10⟩
    all_goals
      have b1 := a1 i; have b2 := a2 i; have b3 := a3 i; have b4 := a4 i
      generalize (x1 - 1).toNat = kk
      simp [up_at, up_cell, b1_1]
      by_cases q : i = kk
      · simp [q] <;> omega
      · simp [q] <;> omega
  all_goals repeat (first | exact fr_refl _ _ | refine fr_up rfl ?_)

theorem op_fees (x1 x2 : Int) : Op X 121 226 3 [(0, x1), (0, x2)] := by
  intro E c s d g h hb
  by_cases hc : (0 ≤ x1 ∧ x1 ≤ 99) ∧ (0 ≤ x2 ∧ x2 ≤ 99)
  case neg => exact ⟨0, _, _, (c121 X E c s d x1 x2).trans (if_neg hc), (m226 X E c s d x1 x2).trans (if_neg hc), I0_z h, fr_z⟩
  refine ⟨1, _, _, (c121 X E c s d x1 x2).trans (if_pos hc), (m226 X E c s d x1 x2).trans (if_pos hc), ⟨h.1.fr ?_, h.2.1.fr ?_, h.2.2.1.fr ?_, h.2.2.2.1.fr ?_, ?_, h.2.2.2.2.2.fr ?_⟩, ?_⟩
  case refine_5 =>
    obtain ⟨a1, a2, a3, a4, a5, a6, a7, a8, a9, a10⟩ := h.2.2.2.2.1
    refine ⟨a1, a2, a3, a4, ?_, ?_, ?_, ?_, ?_, ?_⟩
    all_goals
      try simp [up_at, up_cell, up_place]
      try omega
  all_goals repeat (first | exact fr_refl _ _ | refine fr_up rfl ?_)

theorem op_cap (x1 : Int) : Op X 117 221 3 [(0, x1)] := by
  intro E c s d g h hb
  by_cases hc : 1 ≤ x1 ∧ x1 ≤ 10
  case neg => exact ⟨0, _, _, (c117 X E c s d x1).trans (if_neg hc), (m221 X E c s d x1).trans (if_neg hc), I0_z h, fr_z⟩
  refine ⟨1, _, _, (c117 X E c s d x1).trans (if_pos hc), (m221 X E c s d x1).trans (if_pos hc), ⟨h.1.fr ?_, h.2.1.fr ?_, ?_, h.2.2.2.1.fr ?_, h.2.2.2.2.1.fr ?_, h.2.2.2.2.2.fr ?_⟩, ?_⟩
  case refine_3 =>
    obtain ⟨a1, a2, a3, a4, a5, a6, a7, a8, a9, a10, a11⟩ := h.2.2.1
    refine ⟨a1, a2, a3, a4, a5, a6, a7, a8, ?_, ?_, ?_⟩
    all_goals
      try simp [up_at, up_cell, up_place]
      try omega
  all_goals repeat (first | exact fr_refl _ _ | refine fr_up rfl ?_)
end KEEP
