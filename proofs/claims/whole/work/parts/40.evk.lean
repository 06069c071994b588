/-! Part 40: a stretch of code, in one go. -/
theorem evk_at (X : MExt) {d : Nat} {c : List (Instr × List Nat)} (cut : List Nat) (n : Nat) {pc : Nat} {ls st : List MV} {M : Mem} {r : Option MRes} (h : evK prog clsT X d c cut n pc ls st M = r) : Ev prog clsT X d c pc ls st M = r := by
  rw [← Ev_evK prog clsT X d c cut n]; exact h
