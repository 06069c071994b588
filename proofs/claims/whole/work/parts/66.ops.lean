/-! Part 66: printed by wip/whole/ops.py: the plain setters, what each answers and writes. -/
section OPS
variable (X : MExt) (E : List (Nat × Nat)) (c s : Nat) {g : Nat → Nat → Int}
theorem c89 (d : Nat) (x1 x2 x3 x4 : Int) : Call prog clsT X (d + 3) 89 [(2, 0), (0, x1), (0, x2), (0, x3), (0, x4)] (mk E c s (hh g)) = if (0 ≤ x1 ∧ x1 ≤ 9) ∧ (0 ≤ x2 ∧ x2 ≤ 5) ∧ (1 ≤ x3 ∧ x3 ≤ 99) then some ((0, 1), mk E c s (hh (up (up (up g 2 (Int.toNat x1) x2) 3 (Int.toNat x1) x3) 4 (Int.toNat x1) (bit1 x4)))) else some ((0, 0), mk E c s (hh g)) := by
  rw [rc89_, call0 (c90 X E c s (d + 1) x1 0 9), push0, r89_4]
  by_cases h0 : 0 ≤ x1 ∧ x1 ≤ 9
  case neg => rw [cmp_eq, bI_eq0, if_pos h0, if_neg (fun q => h0 q.1)]
  rw [cmp_eq, bI_eq0, if_neg (fun q => q h0), call0 (c90 X E c s (d + 1) x2 0 5), push0, r89_9]
  by_cases h1 : 0 ≤ x2 ∧ x2 ≤ 5
  case neg => rw [cmp_eq, bI_eq0, if_pos h1, if_neg (fun q => h1 q.2.1)]
  rw [cmp_eq, bI_eq0, if_neg (fun q => q h1), call0 (c90 X E c s (d + 1) x3 1 99), push0, r89_14]
  by_cases h2 : 1 ≤ x3 ∧ x3 ≤ 99
  case neg => rw [cmp_ne, bI_ne0, if_neg (fun q => q h2), if_neg (fun q => h2 q.2.2)]
  rw [cmp_ne, bI_ne0, if_pos (fun q => q h2), inb_is, if_pos (show 0 ≤ x1 ∧ x1 < ((10 : Nat) : Int) by omega), inb_is, if_pos (show 0 ≤ x1 ∧ x1 < ((10 : Nat) : Int) by omega), inb_is, if_pos (show 0 ≤ x1 ∧ x1 < ((10 : Nat) : Int) by omega), if_pos (show (0 ≤ x1 ∧ x1 ≤ 9) ∧ (0 ≤ x2 ∧ x2 ≤ 5) ∧ (1 ≤ x3 ∧ x3 ≤ 99) from ⟨h0, h1, h2⟩)]

theorem m151 (d : Nat) (x1 x2 x3 x4 : Int) : Call prog clsT X (d + 3) 151 [(2, 89), (0, x1), (0, x2), (0, x3), (0, x4)] (mk E c s (hh g)) = if (0 ≤ x1 ∧ x1 ≤ 9) ∧ (0 ≤ x2 ∧ x2 ≤ 5) ∧ (1 ≤ x3 ∧ x3 ≤ 99) then some ((0, 1), mk E c s (hh (up (up (up (up (up g 89 0 0) 90 (Int.toNat x1) (bit1 1)) 91 (Int.toNat x1) x2) 92 (Int.toNat x1) x3) 93 (Int.toNat x1) (bit1 x4)))) else some ((0, 0), mk E c s (hh (up g 89 0 0))) := by
  rw [rc151_, call0 (m152 X E c s (d + 1) x1 0 9), push0, r151_7]
  by_cases h0 : 0 ≤ x1 ∧ x1 ≤ 9
  case neg => rw [cmp_eq, bI_eq0, if_pos h0, if_neg (fun q => h0 q.1)]
  rw [cmp_eq, bI_eq0, if_neg (fun q => q h0), call0 (m152 X E c s (d + 1) x2 0 5), push0, r151_12]
  by_cases h1 : 0 ≤ x2 ∧ x2 ≤ 5
  case neg => rw [cmp_eq, bI_eq0, if_pos h1, if_neg (fun q => h1 q.2.1)]
  rw [cmp_eq, bI_eq0, if_neg (fun q => q h1), call0 (m152 X E c s (d + 1) x3 1 99), push0, r151_17]
  by_cases h2 : 1 ≤ x3 ∧ x3 ≤ 99
  case neg => rw [cmp_ne, bI_ne0, if_neg (fun q => q h2), if_neg (fun q => h2 q.2.2)]
  rw [cmp_ne, bI_ne0, if_pos (fun q => q h2), inb_is, if_pos (show 0 ≤ x1 ∧ x1 < ((10 : Nat) : Int) by omega), inb_is, if_pos (show 0 ≤ x1 ∧ x1 < ((10 : Nat) : Int) by omega), inb_is, if_pos (show 0 ≤ x1 ∧ x1 < ((10 : Nat) : Int) by omega), inb_is, if_pos (show 0 ≤ x1 ∧ x1 < ((10 : Nat) : Int) by omega), if_pos (show (0 ≤ x1 ∧ x1 ≤ 9) ∧ (0 ≤ x2 ∧ x2 ≤ 5) ∧ (1 ≤ x3 ∧ x3 ≤ 99) from ⟨h0, h1, h2⟩)]

theorem c101 (d : Nat) (x1 x2 : Int) : Call prog clsT X (d + 3) 101 [(2, 0), (0, x1), (0, x2)] (mk E c s (hh g)) = if (0 ≤ x1 ∧ x1 ≤ 3) ∧ (0 ≤ x2 ∧ x2 ≤ 5) then some ((0, 1), mk E c s (hh (up g 37 (Int.toNat x1) x2))) else some ((0, 0), mk E c s (hh g)) := by
  rw [rc101_, call0 (c90 X E c s (d + 1) x1 0 3), push0, r101_4]
  by_cases h0 : 0 ≤ x1 ∧ x1 ≤ 3
  case neg => rw [cmp_eq, bI_eq0, if_pos h0, if_neg (fun q => h0 q.1)]
  rw [cmp_eq, bI_eq0, if_neg (fun q => q h0), call0 (c90 X E c s (d + 1) x2 0 5), push0, r101_9]
  by_cases h1 : 0 ≤ x2 ∧ x2 ≤ 5
  case neg => rw [cmp_ne, bI_ne0, if_neg (fun q => q h1), if_neg (fun q => h1 q.2)]
  rw [cmp_ne, bI_ne0, if_pos (fun q => q h1), inb_is, if_pos (show 0 ≤ x1 ∧ x1 < ((4 : Nat) : Int) by omega), if_pos (show (0 ≤ x1 ∧ x1 ≤ 3) ∧ (0 ≤ x2 ∧ x2 ≤ 5) from ⟨h0, h1⟩)]

theorem m200 (d : Nat) (x1 x2 : Int) : Call prog clsT X (d + 3) 200 [(2, 89), (0, x1), (0, x2)] (mk E c s (hh g)) = if (0 ≤ x1 ∧ x1 ≤ 3) ∧ (0 ≤ x2 ∧ x2 ≤ 5) then some ((0, 1), mk E c s (hh (up (up (up g 89 0 0) 127 (Int.toNat x1) (bit1 1)) 128 (Int.toNat x1) x2))) else some ((0, 0), mk E c s (hh (up g 89 0 0))) := by
  rw [rc200_, call0 (m152 X E c s (d + 1) x1 0 3), push0, r200_7]
  by_cases h0 : 0 ≤ x1 ∧ x1 ≤ 3
  case neg => rw [cmp_eq, bI_eq0, if_pos h0, if_neg (fun q => h0 q.1)]
  rw [cmp_eq, bI_eq0, if_neg (fun q => q h0), call0 (m152 X E c s (d + 1) x2 0 5), push0, r200_12]
  by_cases h1 : 0 ≤ x2 ∧ x2 ≤ 5
  case neg => rw [cmp_ne, bI_ne0, if_neg (fun q => q h1), if_neg (fun q => h1 q.2)]
  rw [cmp_ne, bI_ne0, if_pos (fun q => q h1), inb_is, if_pos (show 0 ≤ x1 ∧ x1 < ((4 : Nat) : Int) by omega), inb_is, if_pos (show 0 ≤ x1 ∧ x1 < ((4 : Nat) : Int) by omega), if_pos (show (0 ≤ x1 ∧ x1 ≤ 3) ∧ (0 ≤ x2 ∧ x2 ≤ 5) from ⟨h0, h1⟩)]

theorem c112 (d : Nat) (x1 x2 : Int) : Call prog clsT X (d + 3) 112 [(2, 0), (0, x1), (0, x2)] (mk E c s (hh g)) = if (0 ≤ x1 ∧ x1 ≤ 2) ∧ (0 ≤ x2 ∧ x2 ≤ 99) then some ((0, 1), mk E c s (hh (up g 41 (Int.toNat x1) x2))) else some ((0, 0), mk E c s (hh g)) := by
  rw [rc112_, call0 (c90 X E c s (d + 1) x1 0 2), push0, r112_4]
  by_cases h0 : 0 ≤ x1 ∧ x1 ≤ 2
  case neg => rw [cmp_eq, bI_eq0, if_pos h0, if_neg (fun q => h0 q.1)]
  rw [cmp_eq, bI_eq0, if_neg (fun q => q h0), call0 (c90 X E c s (d + 1) x2 0 99), push0, r112_9]
  by_cases h1 : 0 ≤ x2 ∧ x2 ≤ 99
  case neg => rw [cmp_ne, bI_ne0, if_neg (fun q => q h1), if_neg (fun q => h1 q.2)]
  rw [cmp_ne, bI_ne0, if_pos (fun q => q h1), inb_is, if_pos (show 0 ≤ x1 ∧ x1 < ((3 : Nat) : Int) by omega), if_pos (show (0 ≤ x1 ∧ x1 ≤ 2) ∧ (0 ≤ x2 ∧ x2 ≤ 99) from ⟨h0, h1⟩)]

theorem m215 (d : Nat) (x1 x2 : Int) : Call prog clsT X (d + 3) 215 [(2, 89), (0, x1), (0, x2)] (mk E c s (hh g)) = if (0 ≤ x1 ∧ x1 ≤ 2) ∧ (0 ≤ x2 ∧ x2 ≤ 99) then some ((0, 1), mk E c s (hh (up (up g 89 0 0) 131 (Int.toNat x1) x2))) else some ((0, 0), mk E c s (hh (up g 89 0 0))) := by
  rw [rc215_, call0 (m152 X E c s (d + 1) x1 0 2), push0, r215_7]
  by_cases h0 : 0 ≤ x1 ∧ x1 ≤ 2
  case neg => rw [cmp_eq, bI_eq0, if_pos h0, if_neg (fun q => h0 q.1)]
  rw [cmp_eq, bI_eq0, if_neg (fun q => q h0), call0 (m152 X E c s (d + 1) x2 0 99), push0, r215_12]
  by_cases h1 : 0 ≤ x2 ∧ x2 ≤ 99
  case neg => rw [cmp_ne, bI_ne0, if_neg (fun q => q h1), if_neg (fun q => h1 q.2)]
  rw [cmp_ne, bI_ne0, if_pos (fun q => q h1), inb_is, if_pos (show 0 ≤ x1 ∧ x1 < ((3 : Nat) : Int) by omega), if_pos (show (0 ≤ x1 ∧ x1 ≤ 2) ∧ (0 ≤ x2 ∧ x2 ≤ 99) from ⟨h0, h1⟩)]

theorem c120 (d : Nat) (x1 x2 x3 : Int) : Call prog clsT X (d + 3) 120 [(2, 0), (0, x1), (0, x2), (0, x3)] (mk E c s (hh g)) = if (1 ≤ x1 ∧ x1 ≤ 3) ∧ (0 ≤ x2 ∧ x2 ≤ 99) ∧ (0 ≤ x3 ∧ x3 ≤ 999) then some ((0, 1), mk E c s (hh (up (up g 60 (Int.toNat (x1 - 1)) x2) 61 (Int.toNat (x1 - 1)) x3))) else some ((0, 0), mk E c s (hh g)) := by
  rw [rc120_, call0 (c90 X E c s (d + 1) x1 1 3), push0, r120_4]
  by_cases h0 : 1 ≤ x1 ∧ x1 ≤ 3
  case neg => rw [cmp_eq, bI_eq0, if_pos h0, if_neg (fun q => h0 q.1)]
  rw [cmp_eq, bI_eq0, if_neg (fun q => q h0), call0 (c90 X E c s (d + 1) x2 0 99), push0, r120_9]
  by_cases h1 : 0 ≤ x2 ∧ x2 ≤ 99
  case neg => rw [cmp_eq, bI_eq0, if_pos h1, if_neg (fun q => h1 q.2.1)]
  rw [cmp_eq, bI_eq0, if_neg (fun q => q h1), call0 (c90 X E c s (d + 1) x3 0 999), push0, r120_14]
  by_cases h2 : 0 ≤ x3 ∧ x3 ≤ 999
  case neg => rw [cmp_ne, bI_ne0, if_neg (fun q => q h2), if_neg (fun q => h2 q.2.2)]
  have e0 : w32 (x1 - 1) = x1 - 1 := w32_of (by omega) (by omega)
  rw [cmp_ne, bI_ne0, if_pos (fun q => q h2), e0, inb_is, if_pos (show 0 ≤ x1 - 1 ∧ x1 - 1 < ((3 : Nat) : Int) by omega), inb_is, if_pos (show 0 ≤ x1 - 1 ∧ x1 - 1 < ((3 : Nat) : Int) by omega), if_pos (show (1 ≤ x1 ∧ x1 ≤ 3) ∧ (0 ≤ x2 ∧ x2 ≤ 99) ∧ (0 ≤ x3 ∧ x3 ≤ 999) from ⟨h0, h1, h2⟩)]

theorem m225 (d : Nat) (x1 x2 x3 : Int) : Call prog clsT X (d + 3) 225 [(2, 89), (0, x1), (0, x2), (0, x3)] (mk E c s (hh g)) = if (1 ≤ x1 ∧ x1 ≤ 3) ∧ (0 ≤ x2 ∧ x2 ≤ 99) ∧ (0 ≤ x3 ∧ x3 ≤ 999) then some ((0, 1), mk E c s (hh (up (up (up g 89 0 0) 142 (Int.toNat (x1 - 1)) x2) 143 (Int.toNat (x1 - 1)) x3))) else some ((0, 0), mk E c s (hh (up g 89 0 0))) := by
  rw [rc225_, call0 (m152 X E c s (d + 1) x1 1 3), push0, r225_7]
  by_cases h0 : 1 ≤ x1 ∧ x1 ≤ 3
  case neg => rw [cmp_eq, bI_eq0, if_pos h0, if_neg (fun q => h0 q.1)]
  rw [cmp_eq, bI_eq0, if_neg (fun q => q h0), call0 (m152 X E c s (d + 1) x2 0 99), push0, r225_12]
  by_cases h1 : 0 ≤ x2 ∧ x2 ≤ 99
  case neg => rw [cmp_eq, bI_eq0, if_pos h1, if_neg (fun q => h1 q.2.1)]
  rw [cmp_eq, bI_eq0, if_neg (fun q => q h1), call0 (m152 X E c s (d + 1) x3 0 999), push0, r225_17]
  by_cases h2 : 0 ≤ x3 ∧ x3 ≤ 999
  case neg => rw [cmp_ne, bI_ne0, if_neg (fun q => q h2), if_neg (fun q => h2 q.2.2)]
  have e0 : w32 (x1 - 1) = x1 - 1 := w32_of (by omega) (by omega)
  rw [cmp_ne, bI_ne0, if_pos (fun q => q h2), e0, inb_is, if_pos (show 0 ≤ x1 - 1 ∧ x1 - 1 < ((3 : Nat) : Int) by omega), inb_is, if_pos (show 0 ≤ x1 - 1 ∧ x1 - 1 < ((3 : Nat) : Int) by omega), if_pos (show (1 ≤ x1 ∧ x1 ≤ 3) ∧ (0 ≤ x2 ∧ x2 ≤ 99) ∧ (0 ≤ x3 ∧ x3 ≤ 999) from ⟨h0, h1, h2⟩)]

theorem c121 (d : Nat) (x1 x2 : Int) : Call prog clsT X (d + 3) 121 [(2, 0), (0, x1), (0, x2)] (mk E c s (hh g)) = if (0 ≤ x1 ∧ x1 ≤ 99) ∧ (0 ≤ x2 ∧ x2 ≤ 99) then some ((0, 1), mk E c s (hh (up (up g 55 6 x1) 55 7 x2))) else some ((0, 0), mk E c s (hh g)) := by
  rw [rc121_, call0 (c90 X E c s (d + 1) x1 0 99), push0, r121_4]
  by_cases h0 : 0 ≤ x1 ∧ x1 ≤ 99
  case neg => rw [cmp_eq, bI_eq0, if_pos h0, if_neg (fun q => h0 q.1)]
  rw [cmp_eq, bI_eq0, if_neg (fun q => q h0), call0 (c90 X E c s (d + 1) x2 0 99), push0, r121_9]
  by_cases h1 : 0 ≤ x2 ∧ x2 ≤ 99
  case neg => rw [cmp_ne, bI_ne0, if_neg (fun q => q h1), if_neg (fun q => h1 q.2)]
  rw [cmp_ne, bI_ne0, if_pos (fun q => q h1), if_pos (show (0 ≤ x1 ∧ x1 ≤ 99) ∧ (0 ≤ x2 ∧ x2 ≤ 99) from ⟨h0, h1⟩)]

theorem m226 (d : Nat) (x1 x2 : Int) : Call prog clsT X (d + 3) 226 [(2, 89), (0, x1), (0, x2)] (mk E c s (hh g)) = if (0 ≤ x1 ∧ x1 ≤ 99) ∧ (0 ≤ x2 ∧ x2 ≤ 99) then some ((0, 1), mk E c s (hh (up (up (up g 89 0 0) 89 68 x1) 89 69 x2))) else some ((0, 0), mk E c s (hh (up g 89 0 0))) := by
  rw [rc226_, call0 (m152 X E c s (d + 1) x1 0 99), push0, r226_7]
  by_cases h0 : 0 ≤ x1 ∧ x1 ≤ 99
  case neg => rw [cmp_eq, bI_eq0, if_pos h0, if_neg (fun q => h0 q.1)]
  rw [cmp_eq, bI_eq0, if_neg (fun q => q h0), call0 (m152 X E c s (d + 1) x2 0 99), push0, r226_12]
  by_cases h1 : 0 ≤ x2 ∧ x2 ≤ 99
  case neg => rw [cmp_ne, bI_ne0, if_neg (fun q => q h1), if_neg (fun q => h1 q.2)]
  rw [cmp_ne, bI_ne0, if_pos (fun q => q h1), if_pos (show (0 ≤ x1 ∧ x1 ≤ 99) ∧ (0 ≤ x2 ∧ x2 ≤ 99) from ⟨h0, h1⟩)]

theorem c131 (d : Nat) (x1 x2 x3 : Int) : Call prog clsT X (d + 3) 131 [(2, 0), (0, x1), (0, x2), (0, x3)] (mk E c s (hh g)) = if (0 ≤ x1 ∧ x1 ≤ 9) ∧ (0 ≤ x2 ∧ x2 ≤ 4) ∧ ((-1) ≤ x3 ∧ x3 ≤ 99) then some ((0, 1), mk E c s (hh (up g 44 (Int.toNat (x1 * 5 + x2)) x3))) else some ((0, 0), mk E c s (hh g)) := by
  rw [rc131_, call0 (c90 X E c s (d + 1) x1 0 9), push0, r131_4]
  by_cases h0 : 0 ≤ x1 ∧ x1 ≤ 9
  case neg => rw [cmp_eq, bI_eq0, if_pos h0, if_neg (fun q => h0 q.1)]
  rw [cmp_eq, bI_eq0, if_neg (fun q => q h0), call0 (c90 X E c s (d + 1) x2 0 4), push0, r131_9]
  by_cases h1 : 0 ≤ x2 ∧ x2 ≤ 4
  case neg => rw [cmp_eq, bI_eq0, if_pos h1, if_neg (fun q => h1 q.2.1)]
  rw [cmp_eq, bI_eq0, if_neg (fun q => q h1), call0 (c90 X E c s (d + 1) x3 (-1) 99), push0, r131_14]
  by_cases h2 : (-1) ≤ x3 ∧ x3 ≤ 99
  case neg => rw [cmp_ne, bI_ne0, if_neg (fun q => q h2), if_neg (fun q => h2 q.2.2)]
  have e0 : w32 (w32 (x1 * 5) + x2) = x1 * 5 + x2 := by rw [w32_of (x := x1 * 5) (by omega) (by omega), w32_of (by omega) (by omega)]
  rw [cmp_ne, bI_ne0, if_pos (fun q => q h2), e0, inb_is, if_pos (show 0 ≤ x1 * 5 + x2 ∧ x1 * 5 + x2 < ((50 : Nat) : Int) by omega), if_pos (show (0 ≤ x1 ∧ x1 ≤ 9) ∧ (0 ≤ x2 ∧ x2 ≤ 4) ∧ ((-1) ≤ x3 ∧ x3 ≤ 99) from ⟨h0, h1, h2⟩)]

theorem m242 (d : Nat) (x1 x2 x3 : Int) : Call prog clsT X (d + 3) 242 [(2, 89), (0, x1), (0, x2), (0, x3)] (mk E c s (hh g)) = if (0 ≤ x1 ∧ x1 ≤ 9) ∧ (0 ≤ x2 ∧ x2 ≤ 4) ∧ ((-1) ≤ x3 ∧ x3 ≤ 99) then some ((0, 1), mk E c s (hh (up (up g 89 0 0) 152 (Int.toNat (x1 * 5 + x2)) x3))) else some ((0, 0), mk E c s (hh (up g 89 0 0))) := by
  rw [rc242_, call0 (m152 X E c s (d + 1) x1 0 9), push0, r242_7]
  by_cases h0 : 0 ≤ x1 ∧ x1 ≤ 9
  case neg => rw [cmp_eq, bI_eq0, if_pos h0, if_neg (fun q => h0 q.1)]
  rw [cmp_eq, bI_eq0, if_neg (fun q => q h0), call0 (m152 X E c s (d + 1) x2 0 4), push0, r242_12]
  by_cases h1 : 0 ≤ x2 ∧ x2 ≤ 4
  case neg => rw [cmp_eq, bI_eq0, if_pos h1, if_neg (fun q => h1 q.2.1)]
  rw [cmp_eq, bI_eq0, if_neg (fun q => q h1), call0 (m152 X E c s (d + 1) x3 (-1) 99), push0, r242_17]
  by_cases h2 : (-1) ≤ x3 ∧ x3 ≤ 99
  case neg => rw [cmp_ne, bI_ne0, if_neg (fun q => q h2), if_neg (fun q => h2 q.2.2)]
  have e0 : w32 (w32 (5 * x1) + x2) = x1 * 5 + x2 := by rw [w32_of (x := 5 * x1) (by omega) (by omega), w32_of (by omega) (by omega)]; omega
  rw [cmp_ne, bI_ne0, if_pos (fun q => q h2), e0, inb_is, if_pos (show 0 ≤ x1 * 5 + x2 ∧ x1 * 5 + x2 < ((50 : Nat) : Int) by omega), if_pos (show (0 ≤ x1 ∧ x1 ≤ 9) ∧ (0 ≤ x2 ∧ x2 ≤ 4) ∧ ((-1) ≤ x3 ∧ x3 ≤ 99) from ⟨h0, h1, h2⟩)]

theorem c117 (d : Nat) (x1 : Int) : Call prog clsT X (d + 3) 117 [(2, 0), (0, x1)] (mk E c s (hh g)) = if (1 ≤ x1 ∧ x1 ≤ 10) then some ((0, 1), mk E c s (hh (up g 36 3 x1))) else some ((0, 0), mk E c s (hh g)) := by
  rw [rc117_, call0 (c90 X E c s (d + 1) x1 1 10), push0, r117_4]
  by_cases h0 : 1 ≤ x1 ∧ x1 ≤ 10
  case neg => rw [cmp_ne, bI_ne0, if_neg (fun q => q h0), if_neg (fun q => h0 q)]
  rw [cmp_ne, bI_ne0, if_pos (fun q => q h0), if_pos (show (1 ≤ x1 ∧ x1 ≤ 10) from h0)]

theorem m221 (d : Nat) (x1 : Int) : Call prog clsT X (d + 3) 221 [(2, 89), (0, x1)] (mk E c s (hh g)) = if (1 ≤ x1 ∧ x1 ≤ 10) then some ((0, 1), mk E c s (hh (up (up g 89 0 0) 89 61 x1))) else some ((0, 0), mk E c s (hh (up g 89 0 0))) := by
  rw [rc221_, call0 (m152 X E c s (d + 1) x1 1 10), push0, r221_7]
  by_cases h0 : 1 ≤ x1 ∧ x1 ≤ 10
  case neg => rw [cmp_ne, bI_ne0, if_neg (fun q => q h0), if_neg (fun q => h0 q)]
  rw [cmp_ne, bI_ne0, if_pos (fun q => q h0), if_pos (show (1 ≤ x1 ∧ x1 ≤ 10) from h0)]

theorem c99 (h : RE g) (d : Nat) (x1 : Int) : Call prog clsT X (d + 3) 99 [(2, 0), (0, x1)] (mk E c s (hh g)) = if (0 ≤ x1 ∧ x1 < nE g ∧ g 104 x1.toNat = 0) then some ((0, 1), mk E c s (hh (up g 30 1 (land64 (g 30 1) (lxor64 (lshl64 1 x1) (-1)))))) else some ((0, 0), mk E c s (hh g)) := by
  rw [rc99_, call0 (c19 X E c s h d x1), push0, r99_4]
  have hle := h.le
  by_cases h0 : 0 ≤ x1 ∧ x1 < nE g ∧ g 104 x1.toNat = 0
  case neg => rw [cmp_ne, bI_ne0, if_neg (fun q => q h0), if_neg (fun q => h0 q)]
  rw [cmp_ne, bI_ne0, if_pos (fun q => q h0), if_pos (show (0 ≤ x1 ∧ x1 < nE g ∧ g 104 x1.toNat = 0) from h0)]

theorem m160 (h : RN g) (d : Nat) (x1 : Int) : Call prog clsT X (d + 3) 160 [(2, 89), (0, x1)] (mk E c s (hh g)) = if (0 ≤ x1 ∧ x1 < nE g ∧ g 104 x1.toNat = 0) then some ((0, 1), mk E c s (hh (up (up g 89 0 0) 104 (Int.toNat x1) (bit1 1)))) else some ((0, 0), mk E c s (hh (up g 89 0 0))) := by
  rw [rc160_, call0 (show Call prog clsT X (d + 2) 161 [(2, 89), (0, x1)] (mk E c s (hh (up g 89 0 0))) = some ((0, bI (0 ≤ x1 ∧ x1 < nE g ∧ g 104 x1.toNat = 0)), mk E c s (hh (up g 89 0 0))) from m161 X E c s (g := up g 89 0 0) h d x1), push0, r160_6]
  have hle := h.le
  by_cases h0 : 0 ≤ x1 ∧ x1 < nE g ∧ g 104 x1.toNat = 0
  case neg => rw [cmp_ne, bI_ne0, if_neg (fun q => q h0), if_neg (fun q => h0 q)]
  rw [cmp_ne, bI_ne0, if_pos (fun q => q h0), inb_is, if_pos (show 0 ≤ x1 ∧ x1 < ((40 : Nat) : Int) by omega), if_pos (show (0 ≤ x1 ∧ x1 < nE g ∧ g 104 x1.toNat = 0) from h0)]

theorem c100 (h : RE g) (d : Nat) (x1 x2 : Int) : Call prog clsT X (d + 3) 100 [(2, 0), (0, x1), (0, x2)] (mk E c s (hh g)) = if (0 ≤ x1 ∧ x1 < nE g) ∧ (0 ≤ x2 ∧ x2 ≤ g 34 (Int.toNat x1)) then some ((0, 1), mk E c s (hh (up g 35 (Int.toNat x1) x2))) else some ((0, 0), mk E c s (hh g)) := by
  rw [rc100_, call0 (c20 X E c s h (d + 1) x1), push0, r100_4]
  have hle := h.le
  by_cases h0 : 0 ≤ x1 ∧ x1 < nE g
  case neg => rw [cmp_eq, bI_eq0, if_pos h0, if_neg (fun q => h0 q.1)]
  rw [cmp_eq, bI_eq0, if_neg (fun q => q h0), inb_is, if_pos (show 0 ≤ x1 ∧ x1 < ((40 : Nat) : Int) by omega), call0 (c90 X E c s (d + 1) x2 0 (g 34 (Int.toNat x1))), push0, r100_13]
  by_cases h1 : 0 ≤ x2 ∧ x2 ≤ g 34 (Int.toNat x1)
  case neg => rw [cmp_ne, bI_ne0, if_neg (fun q => q h1), if_neg (fun q => h1 q.2)]
  rw [cmp_ne, bI_ne0, if_pos (fun q => q h1), inb_is, if_pos (show 0 ≤ x1 ∧ x1 < ((40 : Nat) : Int) by omega), if_pos (show (0 ≤ x1 ∧ x1 < nE g) ∧ (0 ≤ x2 ∧ x2 ≤ g 34 (Int.toNat x1)) from ⟨h0, h1⟩)]

theorem m163 (h : RN g) (d : Nat) (x1 x2 : Int) : Call prog clsT X (d + 3) 163 [(2, 89), (0, x1), (0, x2)] (mk E c s (hh g)) = if (0 ≤ x1 ∧ x1 < nE g) ∧ (0 ≤ x2 ∧ x2 ≤ g 102 (Int.toNat x1)) then some ((0, 1), mk E c s (hh (up (up g 89 0 0) 103 (Int.toNat x1) x2))) else some ((0, 0), mk E c s (hh (up g 89 0 0))) := by
  rw [rc163_, call0 (show Call prog clsT X (d + 2) 162 [(2, 89), (0, x1)] (mk E c s (hh (up g 89 0 0))) = some ((0, bI (0 ≤ x1 ∧ x1 < nE g)), mk E c s (hh (up g 89 0 0))) from m162 X E c s (g := up g 89 0 0) h (d + 1) x1), push0, r163_6]
  have hle := h.le
  by_cases h0 : 0 ≤ x1 ∧ x1 < nE g
  case neg => rw [cmp_eq, bI_eq0, if_pos h0, if_neg (fun q => h0 q.1)]
  rw [cmp_eq, bI_eq0, if_neg (fun q => q h0), inb_is, if_pos (show 0 ≤ x1 ∧ x1 < ((40 : Nat) : Int) by omega), call0 (show Call prog clsT X (d + 2) 152 [(0, x2), (0, 0), (0, (up g 89 0 0 102 (Int.toNat x1)))] (mk E c s (hh (up g 89 0 0))) = some ((0, bI (0 ≤ x2 ∧ x2 ≤ g 102 (Int.toNat x1))), mk E c s (hh (up g 89 0 0))) from m152 X E c s (g := up g 89 0 0) (d + 1) x2 0 (g 102 (Int.toNat x1))), push0, r163_14]
  by_cases h1 : 0 ≤ x2 ∧ x2 ≤ g 102 (Int.toNat x1)
  case neg => rw [cmp_ne, bI_ne0, if_neg (fun q => q h1), if_neg (fun q => h1 q.2)]
  rw [cmp_ne, bI_ne0, if_pos (fun q => q h1), inb_is, if_pos (show 0 ≤ x1 ∧ x1 < ((40 : Nat) : Int) by omega), if_pos (show (0 ≤ x1 ∧ x1 < nE g) ∧ (0 ≤ x2 ∧ x2 ≤ g 102 (Int.toNat x1)) from ⟨h0, h1⟩)]

theorem c102 (h : RJ g) (d : Nat) (x1 x2 x3 : Int) : Call prog clsT X (d + 3) 102 [(2, 0), (0, x1), (0, x2), (0, x3)] (mk E c s (hh g)) = if (0 ≤ x1 ∧ x1 ≤ 3 ∧ g 127 x1.toNat ≠ 0) ∧ (0 ≤ x2 ∧ x2 ≤ 5) ∧ ((-9) ≤ x3 ∧ x3 ≤ 9) then some ((0, 1), mk E c s (hh (up g 38 (Int.toNat (x1 * 6 + x2)) x3))) else some ((0, 0), mk E c s (hh g)) := by
  rw [rc102_, call0 (c34 X E c s h d x1), push0, r102_4]
  by_cases h0 : 0 ≤ x1 ∧ x1 ≤ 3 ∧ g 127 x1.toNat ≠ 0
  case neg => rw [cmp_eq, bI_eq0, if_pos h0, if_neg (fun q => h0 q.1)]
  rw [cmp_eq, bI_eq0, if_neg (fun q => q h0), call0 (c90 X E c s (d + 1) x2 0 5), push0, r102_9]
  by_cases h1 : 0 ≤ x2 ∧ x2 ≤ 5
  case neg => rw [cmp_eq, bI_eq0, if_pos h1, if_neg (fun q => h1 q.2.1)]
  rw [cmp_eq, bI_eq0, if_neg (fun q => q h1), call0 (c90 X E c s (d + 1) x3 (-9) 9), push0, r102_14]
  by_cases h2 : (-9) ≤ x3 ∧ x3 ≤ 9
  case neg => rw [cmp_ne, bI_ne0, if_neg (fun q => q h2), if_neg (fun q => h2 q.2.2)]
  have e0 : w32 (w32 (x1 * 6) + x2) = x1 * 6 + x2 := by rw [w32_of (x := x1 * 6) (by omega) (by omega), w32_of (by omega) (by omega)]
  rw [cmp_ne, bI_ne0, if_pos (fun q => q h2), e0, inb_is, if_pos (show 0 ≤ x1 * 6 + x2 ∧ x1 * 6 + x2 < ((24 : Nat) : Int) by omega), if_pos (show (0 ≤ x1 ∧ x1 ≤ 3 ∧ g 127 x1.toNat ≠ 0) ∧ (0 ≤ x2 ∧ x2 ≤ 5) ∧ ((-9) ≤ x3 ∧ x3 ≤ 9) from ⟨h0, h1, h2⟩)]

theorem m201 (d : Nat) (x1 x2 x3 : Int) : Call prog clsT X (d + 3) 201 [(2, 89), (0, x1), (0, x2), (0, x3)] (mk E c s (hh g)) = if (0 ≤ x1 ∧ x1 ≤ 3 ∧ g 127 x1.toNat ≠ 0) ∧ (0 ≤ x2 ∧ x2 ≤ 5) ∧ ((-9) ≤ x3 ∧ x3 ≤ 9) then some ((0, 1), mk E c s (hh (up (up g 89 0 0) 129 (Int.toNat (x1 * 6 + x2)) x3))) else some ((0, 0), mk E c s (hh (up g 89 0 0))) := by
  rw [rc201_, call0 (show Call prog clsT X (d + 2) 202 [(2, 89), (0, x1)] (mk E c s (hh (up g 89 0 0))) = some ((0, bI (0 ≤ x1 ∧ x1 ≤ 3 ∧ g 127 x1.toNat ≠ 0)), mk E c s (hh (up g 89 0 0))) from m202 X E c s (g := up g 89 0 0) d x1), push0, r201_6]
  by_cases h0 : 0 ≤ x1 ∧ x1 ≤ 3 ∧ g 127 x1.toNat ≠ 0
  case neg => rw [cmp_eq, bI_eq0, if_pos h0, if_neg (fun q => h0 q.1)]
  rw [cmp_eq, bI_eq0, if_neg (fun q => q h0), call0 (m152 X E c s (d + 1) x2 0 5), push0, r201_11]
  by_cases h1 : 0 ≤ x2 ∧ x2 ≤ 5
  case neg => rw [cmp_eq, bI_eq0, if_pos h1, if_neg (fun q => h1 q.2.1)]
  rw [cmp_eq, bI_eq0, if_neg (fun q => q h1), call0 (m152 X E c s (d + 1) x3 (-9) 9), push0, r201_16]
  by_cases h2 : (-9) ≤ x3 ∧ x3 ≤ 9
  case neg => rw [cmp_ne, bI_ne0, if_neg (fun q => q h2), if_neg (fun q => h2 q.2.2)]
  have e0 : w32 (w32 (6 * x1) + x2) = x1 * 6 + x2 := by rw [w32_of (x := 6 * x1) (by omega) (by omega), w32_of (by omega) (by omega)]; omega
  rw [cmp_ne, bI_ne0, if_pos (fun q => q h2), e0, inb_is, if_pos (show 0 ≤ x1 * 6 + x2 ∧ x1 * 6 + x2 < ((24 : Nat) : Int) by omega), if_pos (show (0 ≤ x1 ∧ x1 ≤ 3 ∧ g 127 x1.toNat ≠ 0) ∧ (0 ≤ x2 ∧ x2 ≤ 5) ∧ ((-9) ≤ x3 ∧ x3 ≤ 9) from ⟨h0, h1, h2⟩)]

end OPS
