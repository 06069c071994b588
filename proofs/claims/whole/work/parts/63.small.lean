/-! Part 63: exhibitors, pieces, judges, years: what is asked of them. -/
/-- exhibitors and pieces of class and reference -/
def RV (g : Nat → Nat → Int) : Prop := (∀ i : Nat, i < 10 → (g 2 i = -1 ↔ g 90 i = 0)) ∧ (∀ i : Nat, g 90 i = 0 ∨ g 90 i = 1) ∧ (∀ i : Nat, i < 10 → g 90 i ≠ 0 → g 2 i = g 91 i) ∧ (∀ i, g 3 i = g 92 i) ∧ (∀ i, g 4 i = g 93 i) ∧ (∀ i : Nat, 0 ≤ g 91 i ∧ g 91 i ≤ 5) ∧ (∀ i, 0 ≤ g 92 i ∧ g 92 i ≤ 99) ∧ (∀ i, g 93 i = 0 ∨ g 93 i = 1) ∧
  (∀ p : Nat, p < 40 → (g 5 p = -1 ↔ g 94 p = 0)) ∧ (∀ p : Nat, g 94 p = 0 ∨ g 94 p = 1) ∧ (∀ p : Nat, p < 40 → g 94 p ≠ 0 → g 5 p = g 95 p) ∧ (∀ p, 0 ≤ g 95 p ∧ g 95 p ≤ 9) ∧ (∀ p, g 6 p = g 96 p) ∧ (∀ p, g 7 p = g 97 p) ∧ (∀ p, g 8 p = g 98 p) ∧ (∀ p, 0 ≤ g 96 p ∧ g 96 p ≤ 9) ∧ (∀ p, 0 ≤ g 97 p ∧ g 97 p ≤ 99) ∧ (∀ p, 0 ≤ g 98 p ∧ g 98 p ≤ 9)
/-- judges -/
def RJ (g : Nat → Nat → Int) : Prop := (∀ j : Nat, j < 4 → (g 37 j = -1 ↔ g 127 j = 0)) ∧ (∀ j : Nat, g 127 j = 0 ∨ g 127 j = 1) ∧ (∀ j : Nat, j < 4 → g 127 j ≠ 0 → g 37 j = g 128 j) ∧ (∀ j, 0 ≤ g 128 j ∧ g 128 j ≤ 5) ∧ (∀ i, g 38 i = g 129 i) ∧ (∀ i, -9 ≤ g 129 i ∧ g 129 i ≤ 9) ∧ (∀ k, g 39 k = g 130 k) ∧ (∀ k : Nat, k < 10 → -1 ≤ g 130 k ∧ g 130 k ≤ 3) ∧ g 36 3 = g 89 61 ∧ 1 ≤ g 89 61 ∧ g 89 61 ≤ 10
/-- tables and years -/
def RH (g : Nat → Nat → Int) : Prop := (∀ i, g 41 i = g 131 i) ∧ (∀ i, 0 ≤ g 131 i ∧ g 131 i ≤ 99) ∧ (∀ i, g 42 i = g 132 i) ∧ (∀ i, 0 ≤ g 132 i ∧ g 132 i ≤ 2) ∧ (∀ i, g 43 i = g 133 i) ∧ (∀ i, 0 ≤ g 133 i ∧ g 133 i ≤ 9) ∧ (∀ i, g 44 i = g 152 i) ∧ (∀ i : Nat, i < 50 → -1 ≤ g 152 i ∧ g 152 i ≤ 99)
theorem RV.ab {g g' : Nat → Nat → Int} (h : RV g) (e : ab g' = ab g) : RV g' := by
  have h1 : RV (Jvm.Pilot.CVillageShowLaw_law_r8692_addf0e.ab g) := h
  rw [← e] at h1
  exact h1
theorem RJ.ab {g g' : Nat → Nat → Int} (h : RJ g) (e : ab g' = ab g) : RJ g' := by
  have h1 : RJ (Jvm.Pilot.CVillageShowLaw_law_r8692_addf0e.ab g) := h
  rw [← e] at h1
  exact h1
theorem RH.ab {g g' : Nat → Nat → Int} (h : RH g) (e : ab g' = ab g) : RH g' := by
  have h1 : RH (Jvm.Pilot.CVillageShowLaw_law_r8692_addf0e.ab g) := h
  rw [← e] at h1
  exact h1
section SMALL
variable (X : MExt) (E : List (Nat × Nat)) (c s : Nat) {g : Nat → Nat → Int}
/-- VillageShow.within, Model.within -/
theorem c90 (d : Nat) (x a b : Int) : Call prog clsT X (d + 1) 90 [(0, x), (0, a), (0, b)] (mk E c s (hh g)) = some ((0, bI (a ≤ x ∧ x ≤ b)), mk E c s (hh g)) := by
  rw [rc90_]
  simp only [cmp_lt, cmp_gt]
  split
  · rw [bI_f (by omega)]
  · split
    · rw [bI_f (by omega)]
    · rw [bI_t (by omega)]
theorem m152 (d : Nat) (x a b : Int) : Call prog clsT X (d + 1) 152 [(0, x), (0, a), (0, b)] (mk E c s (hh g)) = some ((0, bI (a ≤ x ∧ x ≤ b)), mk E c s (hh g)) := by
  rw [rc152_]
  simp only [cmp_lt, cmp_gt]
  split
  · rw [bI_f (by omega)]
  · split
    · rw [bI_f (by omega)]
    · rw [bI_t (by omega)]
/-- Village.hasExhibitor -/
theorem c84 (h : RV g) (d : Nat) (x : Int) : Call prog clsT X (d + 2) 84 [(2, 1), (0, x)] (mk E c s (hh g)) = some ((0, bI (0 ≤ x ∧ x ≤ 9 ∧ g 90 x.toNat ≠ 0)), mk E c s (hh g)) := by
  rw [rc84_, call0 (c90 X E c s d x 0 9), push0, r84_4]
  simp only [cmp_eq, bI_eq0, inb_is]
  by_cases h1 : 0 ≤ x ∧ x ≤ 9
  · rw [if_neg (fun q => q h1), if_pos (by omega)]
    have := h.1 x.toNat (by omega)
    by_cases h2 : g 90 x.toNat = 0
    · rw [if_pos (this.mpr h2), bI_f (fun q => q.2.2 h2)]
    · rw [if_neg (fun q => h2 (this.mp q)), bI_t ⟨h1.1, h1.2, h2⟩]
  · rw [if_pos h1, bI_f (fun q => h1 ⟨q.1, q.2.1⟩)]
/-- Model.isExhibitor -/
theorem m154 (d : Nat) (x : Int) : Call prog clsT X (d + 2) 154 [(2, 89), (0, x)] (mk E c s (hh g)) = some ((0, bI (0 ≤ x ∧ x ≤ 9 ∧ g 90 x.toNat ≠ 0)), mk E c s (hh g)) := by
  rw [rc154_, call0 (m152 X E c s d x 0 9), push0, r154_4]
  simp only [cmp_eq, bI_eq0, inb_is]
  by_cases h1 : 0 ≤ x ∧ x ≤ 9
  · rw [if_neg (fun q => q h1), if_pos (by omega)]
    by_cases h2 : g 90 x.toNat = 0
    · rw [if_pos h2, bI_f (fun q => q.2.2 h2)]
    · rw [if_neg h2, bI_t ⟨h1.1, h1.2, h2⟩]
  · rw [if_pos h1, bI_f (fun q => h1 ⟨q.1, q.2.1⟩)]
/-- Judges.has -/
theorem c34 (h : RJ g) (d : Nat) (x : Int) : Call prog clsT X (d + 2) 34 [(2, 36), (0, x)] (mk E c s (hh g)) = some ((0, bI (0 ≤ x ∧ x ≤ 3 ∧ g 127 x.toNat ≠ 0)), mk E c s (hh g)) := by
  rw [rc34_, call0 (c90 X E c s d x 0 3), push0, r34_4]
  simp only [cmp_eq, bI_eq0, inb_is]
  by_cases h1 : 0 ≤ x ∧ x ≤ 3
  · rw [if_neg (fun q => q h1), if_pos (by omega)]
    have := h.1 x.toNat (by omega)
    by_cases h2 : g 127 x.toNat = 0
    · rw [if_pos (this.mpr h2), bI_f (fun q => q.2.2 h2)]
    · rw [if_neg (fun q => h2 (this.mp q)), bI_t ⟨h1.1, h1.2, h2⟩]
  · rw [if_pos h1, bI_f (fun q => h1 ⟨q.1, q.2.1⟩)]
/-- Model.isTellingJudge -/
theorem m202 (d : Nat) (x : Int) : Call prog clsT X (d + 2) 202 [(2, 89), (0, x)] (mk E c s (hh g)) = some ((0, bI (0 ≤ x ∧ x ≤ 3 ∧ g 127 x.toNat ≠ 0)), mk E c s (hh g)) := by
  rw [rc202_, call0 (m152 X E c s d x 0 3), push0, r202_4]
  simp only [cmp_eq, bI_eq0, inb_is]
  by_cases h1 : 0 ≤ x ∧ x ≤ 3
  · rw [if_neg (fun q => q h1), if_pos (by omega)]
    by_cases h2 : g 127 x.toNat = 0
    · rw [if_pos h2, bI_f (fun q => q.2.2 h2)]
    · rw [if_neg h2, bI_t ⟨h1.1, h1.2, h2⟩]
  · rw [if_pos h1, bI_f (fun q => h1 ⟨q.1, q.2.1⟩)]
/-- Model.isClass -/
theorem m157 (d : Nat) (x : Int) : Call prog clsT X (d + 2) 157 [(2, 89), (0, x)] (mk E c s (hh g)) = some ((0, bI (0 ≤ x ∧ x ≤ 9 ∧ g 106 x.toNat ≠ 0)), mk E c s (hh g)) := by
  rw [rc157_, call0 (m152 X E c s d x 0 9), push0, r157_4]
  simp only [cmp_eq, bI_eq0, inb_is]
  by_cases h1 : 0 ≤ x ∧ x ≤ 9
  · rw [if_neg (fun q => q h1), if_pos (by omega)]
    by_cases h2 : g 106 x.toNat = 0
    · rw [if_pos h2, bI_f (fun q => q.2.2 h2)]
    · rw [if_neg h2, bI_t ⟨h1.1, h1.2, h2⟩]
  · rw [if_pos h1, bI_f (fun q => h1 ⟨q.1, q.2.1⟩)]
/-- Village.exhibitorsTold -/
theorem c86 (h : RV g) (d : Nat) : Call prog clsT X (d + 1) 86 [(2, 1)] (mk E c s (hh g)) = some ((0, sm (fun i => bI (g 90 i ≠ 0)) 10), mk E c s (hh g)) := by
  rw [rc86_]
  refine count_loop (fun i a _ => Ev prog clsT X d mc86 4 [(2, 1), (0, a), (0, (i : Int))] [] (mk E c s (hh g))) (fun a => some ((0, a), mk E c s (hh g))) (fun i => bI (g 90 i ≠ 0)) 10 1 (by omega) (by omega) (fun i _ => bI_b _) (fun i a w hi => ⟨w, ?_⟩) (fun a w => ?_) (3, 0)
  · rw [r86_4, cmp_ge, if_neg (by omega), inb_is, if_pos (by omega), cmp_eq, Int.toNat_natCast, w32_succ (by omega)]
    have := h.1 i hi
    by_cases h1 : g 90 i = 0
    · rw [if_pos (this.mpr h1), bI_f (fun q => q h1)]
    · rw [if_neg (fun q => h1 (this.mp q)), bI_t h1]
  · rw [r86_4, cmp_ge, if_pos (by omega)]
/-- Village.piecesTold -/
theorem c87 (h : RV g) (d : Nat) : Call prog clsT X (d + 1) 87 [(2, 1)] (mk E c s (hh g)) = some ((0, sm (fun i => bI (g 94 i ≠ 0)) 40), mk E c s (hh g)) := by
  rw [rc87_]
  refine count_loop (fun i a _ => Ev prog clsT X d mc87 4 [(2, 1), (0, a), (0, (i : Int))] [] (mk E c s (hh g))) (fun a => some ((0, a), mk E c s (hh g))) (fun i => bI (g 94 i ≠ 0)) 40 1 (by omega) (by omega) (fun i _ => bI_b _) (fun i a w hi => ⟨w, ?_⟩) (fun a w => ?_) (3, 0)
  · rw [r87_4, cmp_ge, if_neg (by omega), inb_is, if_pos (by omega), cmp_eq, Int.toNat_natCast, w32_succ (by omega)]
    have := h.2.2.2.2.2.2.2.2.1 i hi
    by_cases h1 : g 94 i = 0
    · rw [if_pos (this.mpr h1), bI_f (fun q => q h1)]
    · rw [if_neg (fun q => h1 (this.mp q)), bI_t h1]
  · rw [r87_4, cmp_ge, if_pos (by omega)]
/-- Judges.classesJudged -/
theorem c35 (h : RJ g) (d : Nat) : Call prog clsT X (d + 1) 35 [(2, 36)] (mk E c s (hh g)) = some ((0, sm (fun i => bI (0 ≤ g 130 i)) 10), mk E c s (hh g)) := by
  rw [rc35_]
  refine count_loop (fun i a _ => Ev prog clsT X d mc35 4 [(2, 36), (0, a), (0, (i : Int))] [] (mk E c s (hh g))) (fun a => some ((0, a), mk E c s (hh g))) (fun i => bI (0 ≤ g 130 i)) 10 1 (by omega) (by omega) (fun i _ => bI_b _) (fun i a w hi => ⟨w, ?_⟩) (fun a w => ?_) (3, 0)
  · rw [r35_4, cmp_ge, if_neg (by omega), inb_is, if_pos (by omega), cmp_eq, Int.toNat_natCast, w32_succ (by omega), h.2.2.2.2.2.2.1]
    have := h.2.2.2.2.2.2.2.1 i hi
    by_cases h1 : g 130 i = -1
    · rw [if_pos h1, bI_f (by omega)]
    · rw [if_neg h1, bI_t (by omega)]
  · rw [r35_4, cmp_ge, if_pos (by omega)]
/-- Judges.judgesTold -/
theorem c36 (h : RJ g) (d : Nat) : Call prog clsT X (d + 1) 36 [(2, 36)] (mk E c s (hh g)) = some ((0, sm (fun i => bI (g 127 i ≠ 0)) 4), mk E c s (hh g)) := by
  rw [rc36_]
  refine count_loop (fun i a _ => Ev prog clsT X d mc36 4 [(2, 36), (0, a), (0, (i : Int))] [] (mk E c s (hh g))) (fun a => some ((0, a), mk E c s (hh g))) (fun i => bI (g 127 i ≠ 0)) 4 1 (by omega) (by omega) (fun i _ => bI_b _) (fun i a w hi => ⟨w, ?_⟩) (fun a w => ?_) (3, 0)
  · rw [r36_4, cmp_ge, if_neg (by omega), inb_is, if_pos (by omega), cmp_eq, Int.toNat_natCast, w32_succ (by omega)]
    have := h.1 i hi
    by_cases h1 : g 127 i = 0
    · rw [if_pos (this.mpr h1), bI_f (fun q => q h1)]
    · rw [if_neg (fun q => h1 (this.mp q)), bI_t h1]
  · rw [r36_4, cmp_ge, if_pos (by omega)]
/-- the pieces of an exhibitor among the first p, as bits -/
def ofTo (g : Nat → Nat → Int) (x : Int) (p : Nat) : Int := fo (fun p a => lor64 a (if g 94 p ≠ 0 ∧ g 95 p = x then lshl64 1 p else 0)) 0 p
/-- Village.piecesOf -/
theorem c85 (h : RV g) (d : Nat) (x : Int) (hx : 0 ≤ x) : Call prog clsT X (d + 1) 85 [(2, 1), (0, x)] (mk E c s (hh g)) = some ((1, ofTo g x 40), mk E c s (hh g)) := by
  rw [rc85_]
  refine fold_loop (fun i a w => Ev prog clsT X d mc85 4 [(2, 1), (0, x), (1, a), w, (0, ((i : Nat) : Int))] [] (mk E c s (hh g))) (fun a => some ((1, a), mk E c s (hh g))) (fun p a => lor64 a (if g 94 p ≠ 0 ∧ g 95 p = x then lshl64 1 p else 0)) 40 0 (fun i w hi => ⟨(3, 0), ?_⟩) (fun w => ?_) (3, 0)
  · generalize fo _ _ i = a
    rw [r85_4, cmp_ge, if_neg (by omega), inb_is, if_pos (by omega), cmp_ne, Int.toNat_natCast, w32_succ (by omega)]
    have h1 := h.2.2.2.2.2.2.2.2.1 i hi
    have h2 := h.2.2.2.2.2.2.2.2.2.2.1 i hi
    by_cases h3 : g 94 i = 0
    · rw [if_pos (by rw [h1.mpr h3]; omega), if_neg (fun q => q.1 h3)]
    · rw [h2 h3]
      by_cases h4 : g 95 i = x
      · rw [if_neg (fun q => q h4), if_pos ⟨h3, h4⟩]
      · rw [if_pos h4, if_neg (fun q => h4 q.2)]
  · rw [r85_4, cmp_ge, if_pos (by omega)]
end SMALL
