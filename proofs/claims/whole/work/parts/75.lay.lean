/-! Part 75: lay. -/
theorem op_lay (X : MExt) (x1 x2 x3 : Int) : Op X 113 216 3 [(0, x1), (0, x2), (0, x3)] := by
  intro E c s d g h hb
  have cl : Call prog clsT X (d + 3) 113 [(2, 0), (0, x1), (0, x2), (0, x3)] (mk E c s (hh g)) = if (0 ≤ x1 ∧ x1 ≤ 9 ∧ g 106 x1.toNat ≠ 0) ∧ (0 ≤ x2 ∧ x2 ≤ 2) ∧ (0 ≤ x3 ∧ x3 ≤ 9) then some ((0, 1), mk E c s (hh (up (up g 42 x1.toNat x2) 43 x1.toNat x3))) else some ((0, 0), mk E c s (hh g)) := by
    rw [rc113_, call2 (c97 X E c s d x1), push2, r113_3, nul (hb.of x1)]
    by_cases h0 : 0 ≤ x1 ∧ x1 ≤ 9 ∧ g 106 x1.toNat ≠ 0
    case neg => rw [if_neg h0, if_neg (fun q => h0 q.1)]
    rw [if_pos h0, call0 (c90 X E c s (d + 1) x2 0 2), push0, r113_8, cmp_eq, bI_eq0]
    by_cases h1 : 0 ≤ x2 ∧ x2 ≤ 2
    case neg => rw [if_pos h1, if_neg (fun q => h1 q.2.1)]
    rw [if_neg (fun q => q h1), call0 (c90 X E c s (d + 1) x3 0 9), push0, r113_13, cmp_ne, bI_ne0]
    by_cases h2 : 0 ≤ x3 ∧ x3 ≤ 9
    case neg => rw [if_neg (fun q => q h2), if_neg (fun q => h2 q.2.2)]
    rw [if_pos (fun q => q h2), inb_is, if_pos (by omega), inb_is, if_pos (by omega), if_pos ⟨h0, h1, h2⟩]
  have ml : ∀ g : Nat → Nat → Int, Call prog clsT X (d + 3) 216 [(2, 89), (0, x1), (0, x2), (0, x3)] (mk E c s (hh g)) = if (0 ≤ x1 ∧ x1 ≤ 9 ∧ g 106 x1.toNat ≠ 0) ∧ (0 ≤ x2 ∧ x2 ≤ 2) ∧ (0 ≤ x3 ∧ x3 ≤ 9) then some ((0, 1), mk E c s (hh (up (up (up g 89 0 0) 132 x1.toNat x2) 133 x1.toNat x3))) else some ((0, 0), mk E c s (hh (up g 89 0 0))) := by
    intro g
    rw [rc216_, call0 (show Call prog clsT X (d + 2) 157 [(2, 89), (0, x1)] (mk E c s (hh (up g 89 0 0))) = some ((0, bI (0 ≤ x1 ∧ x1 ≤ 9 ∧ g 106 x1.toNat ≠ 0)), mk E c s (hh (up g 89 0 0))) from m157 X E c s (g := up g 89 0 0) d x1), push0, r216_6, cmp_eq, bI_eq0]
    by_cases h0 : 0 ≤ x1 ∧ x1 ≤ 9 ∧ g 106 x1.toNat ≠ 0
    case neg => rw [if_pos h0, if_neg (fun q => h0 q.1)]
    rw [if_neg (fun q => q h0), call0 (m152 X E c s (d + 1) x2 0 2), push0, r216_11, cmp_eq, bI_eq0]
    by_cases h1 : 0 ≤ x2 ∧ x2 ≤ 2
    case neg => rw [if_pos h1, if_neg (fun q => h1 q.2.1)]
    rw [if_neg (fun q => q h1), call0 (m152 X E c s (d + 1) x3 0 9), push0, r216_16, cmp_ne, bI_ne0]
    by_cases h2 : 0 ≤ x3 ∧ x3 ≤ 9
    case neg => rw [if_neg (fun q => q h2), if_neg (fun q => h2 q.2.2)]
    rw [if_pos (fun q => q h2), inb_is, if_pos (by omega), inb_is, if_pos (by omega), if_pos ⟨h0, h1, h2⟩]
  by_cases hc : (0 ≤ x1 ∧ x1 ≤ 9 ∧ g 106 x1.toNat ≠ 0) ∧ (0 ≤ x2 ∧ x2 ≤ 2) ∧ (0 ≤ x3 ∧ x3 ≤ 9)
  case neg => exact ⟨0, _, _, cl.trans (if_neg hc), (ml g).trans (if_neg hc), I0_z h, fr_z⟩
  refine ⟨1, _, _, cl.trans (if_pos hc), (ml _).trans (if_pos hc), ⟨h.1.fr ?_, h.2.1.fr ?_, h.2.2.1.fr ?_, ?_, h.2.2.2.2.1.fr ?_, h.2.2.2.2.2.fr ?_⟩, ?_⟩
  case refine_4 =>
    obtain ⟨a1, a2, a3, a4, a5, a6, a7, a8⟩ := h.2.2.2.1
    refine ⟨a1, a2, fun i => ?_, fun i => ?_, fun i => ?_, fun i => ?_, a7, a8⟩
    all_goals
      have b3 := a3 i; have b4 := a4 i; have b5 := a5 i; have b6 := a6 i
      generalize x1.toNat = kk
      simp [up_at, up_cell]
      by_cases q : i = kk
      · simp [q] <;> omega
      · simp [q] <;> omega
  all_goals repeat (first | exact fr_refl _ _ | refine fr_up rfl ?_)
